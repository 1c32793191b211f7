/-! The reference's steps of reduction. -/
def sp_MD_drop : sn_P := fun vs σ po => match vs with
  | [.inr (.inr q), .inl l] => q = (40, 0) ∧ ∃ S : sT, my_v S 0 σ ∧ (0 ≤ l ∧ l < 60) ∧ ∀ σ', my_v (y_r S 0 l.toNat (-1)) 0 σ' → sn_fr (cp_P 0) σ σ' → po none σ'
  | _ => False
def ca_MD_drop : List (Nat × Nat × Nat × sn_P) := []
theorem co_MD_drop : ∀ x n ci s', sn_lk ca_MD_drop x = some (n, ci, s') → sn_CO "SwitchedNetsModel" sn_ws 0 x n ci s' := fun _ _ _ _ h => by cases h
theorem ct_MD_drop : sn_CT y_MD_drop ws_MD_drop 0 sp_MD_drop := by
  refine sn_CT_of (pr := pr_MD_drop) (fi := (sn_lk ft_MD)) (lc := (sn_lk lc_MD)) (ca := sn_lk ca_MD_drop) pl_MD ?_ pk_MD_drop FI_MD LC_MD co_MD_drop ?_
  · intro vs σ post h
    unfold sp_MD_drop at h
    split at h
    · exact Nat.le_of_ble_eq_true rfl
    · exact h.elim
  · intro vs σ post h hvs hR
    unfold sp_MD_drop at h
    split at h
    · next q l =>
      obtain ⟨rfl, S, hv, hl, h⟩ := h
      intro G hG
      have i1 : (0 : Int) ≤ l ∧ l < (240 : Nat) := by omega
      have x1 : l.toNat = 60 * 0 + l.toNat := by omega
      refine hG 30 [] _ _ _ _ ?_
      refine And.intro i1 ?_
      exact h _ (my_l hv 0 l.toNat (-1) (by omega) (by omega) (k := 49) rfl x1) (sn_fr_u (sn_fr_rf _ σ) (cp_l (by omega) (by omega) (by omega) x1) _)
    · exact h.elim
def sp_MD_dropEdge : sn_P := fun vs σ po => match vs with
  | [.inr (.inr q), .inl l] => q = (40, 0) ∧ ∃ S : sT, my_v S 0 σ ∧ (0 ≤ l ∧ l < 100) ∧ ∀ σ', my_v (y_r S 4 l.toNat (-1)) 0 σ' → sn_fr (cp_P 0) σ σ' → po none σ'
  | _ => False
def ca_MD_dropEdge : List (Nat × Nat × Nat × sn_P) := []
theorem co_MD_dropEdge : ∀ x n ci s', sn_lk ca_MD_dropEdge x = some (n, ci, s') → sn_CO "SwitchedNetsModel" sn_ws 0 x n ci s' := fun _ _ _ _ h => by cases h
theorem ct_MD_dropEdge : sn_CT y_MD_dropEdge ws_MD_dropEdge 0 sp_MD_dropEdge := by
  refine sn_CT_of (pr := pr_MD_dropEdge) (fi := (sn_lk ft_MD)) (lc := (sn_lk lc_MD)) (ca := sn_lk ca_MD_dropEdge) pl_MD ?_ pk_MD_dropEdge FI_MD LC_MD co_MD_dropEdge ?_
  · intro vs σ post h
    unfold sp_MD_dropEdge at h
    split at h
    · exact Nat.le_of_ble_eq_true rfl
    · exact h.elim
  · intro vs σ post h hvs hR
    unfold sp_MD_dropEdge at h
    split at h
    · next q l =>
      obtain ⟨rfl, S, hv, hl, h⟩ := h
      intro G hG
      have i1 : (0 : Int) ≤ l ∧ l < (400 : Nat) := by omega
      have x1 : l.toNat = 100 * 0 + l.toNat := by omega
      refine hG 30 [] _ _ _ _ ?_
      refine And.intro i1 ?_
      exact h _ (my_g hv 4 l.toNat (-1) (by omega) (by omega) (by omega) (k := 53) rfl x1) (sn_fr_u (sn_fr_rf _ σ) (cp_g (by omega) (by omega) (by omega) x1) _)
    · exact h.elim
def sp_MD_slide : sn_P := fun vs σ po => match vs with
  | [.inr (.inr q), .inl c, .inl of, .inl other] => q = (40, 0) ∧ ∃ (S : sT) (a : Nat) (gone : Int), my_v S 0 σ ∧ (0 ≤ c ∧ c < 60) ∧ (0 ≤ of ∧ of < 100) ∧ (0 ≤ other ∧ other < 100) ∧ S.1 5 of.toNat = (a : Int) ∧ a < 60 ∧ gone = s_go S a of ∧ (0 ≤ gone ∧ gone < 100) ∧ (-1 ≤ S.1 6 gone.toNat ∧ S.1 6 gone.toNat < 60) ∧ (-1 ≤ S.1 7 gone.toNat ∧ S.1 7 gone.toNat < 100) ∧
    (gone = other → po (some (.inl 0)) σ) ∧ (¬ gone = other → ∀ σ', my_v (s_sl S c.toNat a of other gone) 0 σ' → sn_fr (cp_P 0) σ σ' → po (some (.inl 1)) σ')
  | _ => False
def ca_MD_slide : List (Nat × Nat × Nat × sn_P) := [(169, 2, 8, sp_MD_drop), (172, 2, 8, sp_MD_dropEdge)]
theorem co_MD_slide : ∀ x n ci s', sn_lk ca_MD_slide x = some (n, ci, s') → sn_CO "SwitchedNetsModel" sn_ws 1 x n ci s' := sn_co_of (List.forall_mem_cons.mpr ⟨sn_CO_V ("SwitchedNetsModel", T_MD, 29) ct_MD_drop (by decide) (by decide) (sn_gV ml_MD_169 mi_MD_drop ms_MD_drop mz_MD mc_MD_drop) (by decide) rfl rfl ⟨nh_MD.1, nh_MD.2, pn_MD_drop⟩, List.forall_mem_cons.mpr ⟨sn_CO_V ("SwitchedNetsModel", T_MD, 29) ct_MD_dropEdge (by decide) (by decide) (sn_gV ml_MD_172 mi_MD_dropEdge ms_MD_dropEdge mz_MD mc_MD_dropEdge) (by decide) rfl rfl ⟨nh_MD.1, nh_MD.2, pn_MD_dropEdge⟩, fun _ h => absurd h List.not_mem_nil⟩⟩)
set_option maxHeartbeats 1000000 in
theorem ct_MD_slide : sn_CT y_MD_slide ws_MD_slide 1 sp_MD_slide := by
  refine sn_CT_of (pr := pr_MD_slide) (fi := (sn_lk ft_MD)) (lc := (sn_lk lc_MD)) (ca := sn_lk ca_MD_slide) pl_MD ?_ pk_MD_slide FI_MD LC_MD co_MD_slide ?_
  · intro vs σ post h
    unfold sp_MD_slide at h
    split at h
    · exact Nat.le_of_ble_eq_true rfl
    · exact h.elim
  · intro vs σ post h hvs hR
    unfold sp_MD_slide at h
    split at h
    · next q c of other =>
      obtain ⟨rfl, S, a, gone, hv, hc, hof, hot, ha, ha60, hgo, hg, ht, hn, h1, h2⟩ := h
      intro G hG
      have iof : (0 : Int) ≤ of ∧ of < (400 : Nat) := by omega
      have iot : (0 : Int) ≤ other ∧ other < (400 : Nat) := by omega
      have ig : (0 : Int) ≤ gone ∧ gone < (400 : Nat) := by omega
      have ia : (0 : Int) ≤ (a : Int) ∧ (a : Int) < (240 : Nat) := by omega
      have e54 : σ.1 54 0 of.toNat = (a : Int) := (my_rg hv (a := 5) (by omega) (by omega) (by omega) rfl (by omega)).trans ha
      have e50 : σ.1 50 0 a = S.1 1 a := my_rl hv (a := 1) (by omega) ha60 rfl (by omega)
      have e51 : σ.1 51 0 a = S.1 2 a := my_rl hv (a := 2) (by omega) ha60 rfl (by omega)
      have e55 : σ.1 55 0 gone.toNat = S.1 6 gone.toNat := my_rg hv (a := 6) (by omega) (by omega) (by omega) rfl (by omega)
      have e56 : σ.1 56 0 gone.toNat = S.1 7 gone.toNat := my_rg hv (a := 7) (by omega) (by omega) (by omega) rfl (by omega)
      -- what goes
      have r140 : ∀ (to : Int) (σ3 : sn_M) (S3 : sT), my_v S3 0 σ3 → sn_fr (cp_P 0) σ σ3 → S3.2 = S.2 → ¬ gone = other → (∀ x, x < 9 → (y_r (y_r (y_r (y_r S3 0 a (-1)) 0 c.toNat (-1)) 4 of.toNat (-1)) 4 gone.toNat (-1)).1 x = (s_sl S c.toNat a of other gone).1 x) →
          G 140 [some (.inr (.inr (40, 0))), some (.inl c), some (.inl of), some (.inl other), some (.inl (a : Int)), some (.inl gone), some (.inl to)] [] σ3 := by
        intro to σ3 S3 v3 f3 hS hne hrow
        refine hG 40 [] _ _ _ _ ?_
        refine And.intro rfl ⟨S3, v3, by omega, fun σ4 v4 f4 => ?_⟩
        refine And.intro rfl ⟨_, v4, by omega, fun σ5 v5 f5 => ?_⟩
        refine And.intro rfl ⟨_, v5, by omega, fun σ6 v6 f6 => ?_⟩
        refine And.intro rfl ⟨_, v6, by omega, fun σ7 v7 f7 => ?_⟩
        refine And.intro (Or.inr rfl) ?_
        exact h2 hne σ7 (my_e v7 (fun x hx => (hrow x hx).symm) hS.symm) (sn_fr_t f3 (sn_fr_t f4 (sn_fr_t f5 (sn_fr_t f6 f7))))
      -- the name
      have r117 : ∀ (σ2 : sn_M) (S2 : sT), my_v S2 0 σ2 → sn_fr (cp_P 0) σ σ2 → S2.2 = S.2 → ¬ gone = other → (∀ x, x < 9 → S2.1 x = (match x with
            | 1 => if 0 ≤ S.1 6 gone.toNat ∧ S.1 1 (S.1 6 gone.toNat).toNat = gone then sn_up (S.1 1) (S.1 6 gone.toNat).toNat other else S.1 1
            | 2 => if 0 ≤ S.1 6 gone.toNat ∧ ¬ S.1 1 (S.1 6 gone.toNat).toNat = gone then sn_up (S.1 2) (S.1 6 gone.toNat).toNat other else S.1 2
            | 6 => sn_up (S.1 6) other.toNat (S.1 6 gone.toNat)
            | 7 => sn_up (S.1 7) other.toNat (S.1 7 gone.toNat)
            | x => S.1 x)) →
          G 117 [some (.inr (.inr (40, 0))), some (.inl c), some (.inl of), some (.inl other), some (.inl (a : Int)), some (.inl gone), some (.inl (S.1 6 gone.toNat))] [] σ2 := by
        intro σ2 S2 v2 f2 hS hne hrow
        have r7 := hrow 7 (by omega)
        have e7 : σ2.1 56 0 gone.toNat = S.1 7 gone.toNat := by
          rw [my_rg v2 (a := 7) (k := 56) (x := gone.toNat) (by omega) (by omega) (by omega : gone.toNat < 100) rfl (by omega), r7]
          exact sn_up_ne _ (by omega)
        refine hG 30 [140] _ _ _ _ ?_
        refine And.intro ig ?_
        refine And.intro (fun n0 => ?_) (fun n0 => ?_)
        · have n0 : σ2.1 56 0 gone.toNat < 0 := n0
          rw [e7] at n0
          refine r140 _ σ2 S2 v2 f2 hS hne (fun x hx => ?_)
          match x, hx with
          | 0, _ => show sn_up (sn_up (S2.1 0) a (-1)) c.toNat (-1) = _; rw [hrow 0 (by omega)]; rfl
          | 1, _ => exact hrow 1 (by omega)
          | 2, _ => exact hrow 2 (by omega)
          | 3, _ => exact hrow 3 (by omega)
          | 4, _ => show sn_up (sn_up (S2.1 4) of.toNat (-1)) gone.toNat (-1) = _; rw [hrow 4 (by omega)]; rfl
          | 5, _ => exact hrow 5 (by omega)
          | 6, _ => exact hrow 6 (by omega)
          | 7, _ => exact hrow 7 (by omega)
          | 8, _ =>
            show S2.1 8 = if 0 ≤ S.1 7 gone.toNat then _ else S.1 8
            rw [if_neg (by omega)]
            exact hrow 8 (by omega)
          | x + 9, h => omega
        · have n0 : 0 ≤ σ2.1 56 0 gone.toNat := n0
          refine And.intro ig ?_
          have i7 : 0 ≤ σ2.1 56 0 gone.toNat ∧ σ2.1 56 0 gone.toNat < (400 : Nat) := by rw [e7]; omega
          refine And.intro i7 ?_
          rw [e7] at n0
          have x7 : (S.1 7 gone.toNat).toNat = 100 * 0 + (S.1 7 gone.toNat).toNat := by omega
          have v3 := my_g v2 8 (S.1 7 gone.toNat).toNat other (by omega) (by omega) (by omega) (k := 57) rfl x7
          have f3 := sn_fr_u f2 (cp_g (b := 0) (k := 57) (by omega) (by omega) (by omega) x7) other
          have g := r140 (S.1 6 gone.toNat) _ _ v3 f3 hS hne (fun x hx => by
            match x, hx with
            | 0, _ => show sn_up (sn_up (S2.1 0) a (-1)) c.toNat (-1) = _; rw [hrow 0 (by omega)]; rfl
            | 1, _ => exact hrow 1 (by omega)
            | 2, _ => exact hrow 2 (by omega)
            | 3, _ => exact hrow 3 (by omega)
            | 4, _ => show sn_up (sn_up (S2.1 4) of.toNat (-1)) gone.toNat (-1) = _; rw [hrow 4 (by omega)]; rfl
            | 5, _ => exact hrow 5 (by omega)
            | 6, _ => exact hrow 6 (by omega)
            | 7, _ => exact hrow 7 (by omega)
            | 8, _ =>
              show sn_up (S2.1 8) (S.1 7 gone.toNat).toNat other = if 0 ≤ S.1 7 gone.toNat then _ else S.1 8
              rw [if_pos n0, hrow 8 (by omega)]
              rfl
            | x + 9, h => omega)
          rw [← e7] at g
          exact g
      -- the premise's new place
      have r36 : G 36 [some (.inr (.inr (40, 0))), some (.inl c), some (.inl of), some (.inl other), some (.inl (a : Int)), none, none] [.inl gone] σ := by
        refine hG 60 [117] _ _ _ _ ?_
        refine And.intro (fun z => ?_) (fun hne => ?_)
        · have z : gone = other := z
          exact And.intro (Or.inl rfl) (h1 z)
        · have hne : ¬ gone = other := hne
          refine And.intro ig (And.intro iot (And.intro ig (And.intro iot ?_)))
          have x6 : other.toNat = 100 * 0 + other.toNat := by omega
          have v1 := my_g (my_g hv 6 other.toNat (S.1 6 gone.toNat) (by omega) (by omega) (by omega) (k := 55) rfl x6) 7 other.toNat (S.1 7 gone.toNat) (by omega) (by omega) (by omega) (k := 56) rfl x6
          have f1 := sn_fr_u (sn_fr_u (sn_fr_rf (cp_P 0) σ) (cp_g (k := 55) (by omega) (by omega) (by omega) x6) (S.1 6 gone.toNat)) (cp_g (k := 56) (by omega) (by omega) (by omega) x6) (S.1 7 gone.toNat)
          rw [← e55, ← e56] at v1 f1
          refine And.intro (fun t0 => ?_) (fun t0 => ?_)
          · have t0 : σ.1 55 0 gone.toNat < 0 := t0
            refine And.intro (fun _ => ?_) (fun z => absurd (show 0 ≤ σ.1 55 0 gone.toNat from z) (by omega))
            rw [e55] at t0
            have g := r117 _ _ v1 f1 rfl hne (fun x hx => by
              rw [e55, e56]
              match x, hx with
              | 0, _ => rfl
              | 1, _ => exact (if_neg (by omega)).symm
              | 2, _ => exact (if_neg (by omega)).symm
              | 3, _ => rfl
              | 4, _ => rfl
              | 5, _ => rfl
              | 6, _ => rfl
              | 7, _ => rfl
              | 8, _ => rfl
              | x + 9, h => omega)
            rw [← e55] at g
            exact g
          · have t0 : 0 ≤ σ.1 55 0 gone.toNat := t0
            have ito : 0 ≤ σ.1 55 0 gone.toNat ∧ σ.1 55 0 gone.toNat < (240 : Nat) := by rw [e55]; omega
            refine And.intro ito ?_
            have t1 : 0 ≤ S.1 6 gone.toNat := by rw [← e55]; exact t0
            have x1 : (σ.1 55 0 gone.toNat).toNat = 60 * 0 + (S.1 6 gone.toNat).toNat := by rw [e55]; omega
            have el : σ.1 50 0 (σ.1 55 0 gone.toNat).toNat = S.1 1 (S.1 6 gone.toNat).toNat := my_rl hv (a := 1) (by omega) (by omega) rfl x1
            refine And.intro (fun z => ?_) (fun z => ?_)
            · have z : σ.1 50 0 (σ.1 55 0 gone.toNat).toNat = gone := z
              rw [el] at z
              refine And.intro ito ?_
              have v2 := my_l v1 1 (S.1 6 gone.toNat).toNat other (by omega) (by omega) (k := 50) rfl x1
              have f2 := sn_fr_u f1 (cp_l (b := 0) (k := 50) (by omega) (by omega) (by omega) x1) other
              have g := r117 _ _ v2 f2 rfl hne (fun x hx => by
                rw [e55, e56]
                match x, hx with
                | 0, _ => rfl
                | 1, _ => exact (if_pos ⟨t1, z⟩).symm
                | 2, _ => exact (if_neg (fun y => y.2 z)).symm
                | 3, _ => rfl
                | 4, _ => rfl
                | 5, _ => rfl
                | 6, _ => rfl
                | 7, _ => rfl
                | 8, _ => rfl
                | x + 9, h => omega)
              rw [← e55] at g
              exact g
            · have z : ¬ σ.1 50 0 (σ.1 55 0 gone.toNat).toNat = gone := z
              rw [el] at z
              refine And.intro (fun y => absurd (show σ.1 55 0 gone.toNat < 0 from y) (by omega)) (fun _ => ?_)
              refine And.intro ito ?_
              have v2 := my_l v1 2 (S.1 6 gone.toNat).toNat other (by omega) (by omega) (k := 51) rfl x1
              have f2 := sn_fr_u f1 (cp_l (b := 0) (k := 51) (by omega) (by omega) (by omega) x1) other
              have g := r117 _ _ v2 f2 rfl hne (fun x hx => by
                rw [e55, e56]
                match x, hx with
                | 0, _ => rfl
                | 1, _ => exact (if_neg (fun y => z y.2)).symm
                | 2, _ => exact (if_pos ⟨t1, z⟩).symm
                | 3, _ => rfl
                | 4, _ => rfl
                | 5, _ => rfl
                | 6, _ => rfl
                | 7, _ => rfl
                | 8, _ => rfl
                | x + 9, h => omega)
              rw [← e55] at g
              exact g
      refine hG 20 [36] _ _ _ _ ?_
      refine And.intro iof ?_
      have ia2 : 0 ≤ σ.1 54 0 of.toNat ∧ σ.1 54 0 of.toNat < (240 : Nat) := by rw [e54]; exact ia
      refine And.intro ia2 ?_
      unfold s_go at hgo
      rw [← e50, ← e51] at hgo
      have ea : (σ.1 54 0 of.toNat).toNat = a := by rw [e54]; rfl
      refine And.intro (fun z => ?_) (fun z => ?_)
      · have z : σ.1 50 0 (σ.1 54 0 of.toNat).toNat = of := z
        rw [ea] at z
        rw [if_pos z] at hgo
        refine And.intro ia2 ?_
        rw [hgo, ← e54, ← ea] at r36
        exact r36
      · have z : ¬ σ.1 50 0 (σ.1 54 0 of.toNat).toNat = of := z
        rw [ea] at z
        rw [if_neg z] at hgo
        refine And.intro ia2 ?_
        rw [hgo, ← e54, ← ea] at r36
        exact r36
    · exact h.elim
