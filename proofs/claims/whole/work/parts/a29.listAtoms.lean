/-! The reference: the atoms are listed; which fit. -/
def la_P (a _ c : Nat) : Prop := (a = 40 ∧ c = 24) ∨ a = 45 ∨ a = 61
def tdB (f : Nat) : List Nat → Prop
  | [] => True
  | t :: r => t + r.length ≤ f ∧ tdB f r
def mlA (T : fT) (f : Nat) (σ : sn_M) : Prop := (∀ i g : Nat, (lf T f)[i]? = some g → σ.1 61 0 i = (g : Int)) ∧ σ.1 40 0 24 = ((lf T f).length : Int)
theorem mlA_at {T : fT} {f : Nat} {σ : sn_M} (h : mlA T f σ) {k : Nat} (hk : k < (lf T f).length) : σ.1 61 0 k = ((lf T f).getD k 0 : Int) := h.1 k _ (getD_in hk).2
def sp_MD_listAtoms : sn_P := fun vs σ po => match vs with
  | [.inr (.inr q), .inl x] => q = (40, 0) ∧ ∃ (T : fT) (f : Nat), mt_v T σ ∧ fT_ok T ∧ T.2 ≤ 80 ∧ x = (f : Int) ∧ f < T.2 ∧ (∀ σ', (lf T f).length ≤ 8 → mlA T f σ' → sn_fr la_P σ σ' → po none σ') ∧ (∀ σ', 8 < (lf T f).length → σ'.1 40 0 24 = 9 → sn_fr la_P σ σ' → po none σ')
  | _ => False
def ca_MD_listAtoms : List (Nat × Nat × Nat × sn_P) := []
theorem co_MD_listAtoms : ∀ x n ci s', sn_lk ca_MD_listAtoms x = some (n, ci, s') → sn_CO "SwitchedNetsModel" sn_ws 0 x n ci s' := fun _ _ _ _ h => by cases h
set_option maxHeartbeats 4000000 in
theorem ct_MD_listAtoms : sn_CT y_MD_listAtoms ws_MD_listAtoms 0 sp_MD_listAtoms := by
  refine sn_CT_of (pr := pr_MD_listAtoms) (fi := (sn_lk ft_MD)) (lc := (sn_lk lc_MD)) (ca := sn_lk ca_MD_listAtoms) pl_MD ?_ pk_MD_listAtoms FI_MD LC_MD co_MD_listAtoms ?_
  · intro vs σ post h
    unfold sp_MD_listAtoms at h
    split at h
    · exact Nat.le_of_ble_eq_true rfl
    · exact h.elim
  · intro vs σ post h hvs hR
    unfold sp_MD_listAtoms at h
    split at h
    · next q x =>
      obtain ⟨rfl, T, f, hm, hT, h80, rfl, hf, h8, h9⟩ := h
      intro G hG
      have mtk : ∀ σ1, sn_fr la_P σ σ1 → mt_v T σ1 := fun σ1 f1 => mt_v_fr hm f1 (fun a c h1 h2 z => by unfold la_P at z; omega) (fun z => by unfold la_P at z; omega)
      -- the end
      have fin : ∀ (A : List Nat) (td : List Nat) (σ1 : sn_M), A ++ td.flatMap (lf T) = lf T f → (∀ i g : Nat, A[i]? = some g → σ1.1 61 0 i = (g : Int)) → σ1.1 40 0 24 = (A.length : Int) → (td = [] ∧ A.length ≤ 9) ∨ A.length = 9 → sn_fr la_P σ σ1 → post none σ1 := by
        intro A td σ1 e hA e24 hor f1
        have hl : (lf T f).length = A.length + (td.flatMap (lf T)).length := by rw [← e, List.length_append]
        by_cases c : 8 < (lf T f).length
        · refine h9 σ1 c ?_ f1
          rcases hor with ⟨z, h⟩ | z
          · subst z
            rw [List.flatMap_nil, List.length_nil] at hl
            omega
          · omega
        · refine h8 σ1 (by omega) ?_ f1
          rcases hor with ⟨z, h⟩ | z
          · subst z
            rw [List.flatMap_nil, List.append_nil] at e
            subst e
            exact ⟨hA, e24⟩
          · omega
      have loop : ∀ (d : Nat) (A td : List Nat) (σ1 : sn_M) (o3 : Option sn_V), (td.flatMap (pp T)).length = d → A ++ td.flatMap (lf T) = lf T f → (∀ t ∈ td, t < T.2) → tdB f td → A.length ≤ 9 → (∀ i g : Nat, A[i]? = some g → σ1.1 61 0 i = (g : Int)) → σ1.1 40 0 24 = (A.length : Int) → svi (σ1.1 45 0) (td.map (fun (t : Nat) => (t : Int))) → sn_fr la_P σ σ1 → G 14 [some (.inr (.inr (40, 0))), some (.inl (f : Int)), some (.inl (td.length : Int)), o3] [] σ1 := by
        intro d
        induction d using Nat.strongRecOn with
        | ind d ih =>
          intro A td σ1 o3 hd hA htd hB h9' hAv e24 hs f1
          match td, hd, hA, htd, hB, hs with
          | [], hd, hA, htd, hB, hs =>
            refine hG 20 [14] _ _ _ _ ?_
            refine And.intro (fun _ => fin A [] σ1 hA hAv e24 (Or.inl ⟨rfl, h9'⟩) f1) (fun z => ?_)
            have z : (0 : Int) < ((([] : List Nat).length : Nat) : Int) := z
            rw [List.length_nil] at z
            omega
          | t :: td, hd, hA, htd, hB, hs =>
            have t9 := htd t List.mem_cons_self
            have b1 := hB.1
            have hm1 := mtk σ1 f1
            obtain ⟨s0, s1, s2⟩ := hm1.1 t t9
            have it : (0 : Int) ≤ (t : Int) ∧ (t : Int) < (80 : Nat) := by omega
            have etop : σ1.1 45 0 ((td.length : Int)).toNat = (t : Int) := by
              have := svi_top (t := td.map (fun (t : Nat) => (t : Int))) hs
              rw [List.length_map] at this
              exact this
            have hs' : svi (σ1.1 45 0) (td.map (fun (t : Nat) => (t : Int))) := svi_pop hs
            rw [List.flatMap_cons] at hd hA
            rw [List.length_append] at hd
            by_cases c9 : A.length = 9
            · refine hG 30 [14] _ _ _ _ ?_
              refine And.intro (fun z => ?_) (fun _ => And.intro (fun z => ?_) (fun _ => fin A (t :: td) σ1 (by rw [List.flatMap_cons]; exact hA) hAv e24 (Or.inr c9) f1))
              · have z : (((t :: td).length : Nat) : Int) ≤ 0 := z
                rw [List.length_cons] at z
                omega
              · have z : σ1.1 40 0 24 < 9 := z
                omega
            · have at38 : G 38 [some (.inr (.inr (40, 0))), some (.inl (f : Int)), some (.inl (td.length : Int)), some (.inl (t : Int))] [] σ1 := by
                refine hG 60 [14] _ _ _ _ ?_
                refine And.intro it (And.intro (fun k => ?_) (fun k => ?_))
                · have k : σ1.1 41 0 t = 0 := k
                  rw [s0] at k
                  rw [pp_a k] at hd
                  rw [lf_a k] at hA
                  refine And.intro (show 0 ≤ σ1.1 40 0 24 ∧ σ1.1 40 0 24 < (16 : Nat) by rw [e24]; omega) (And.intro (show sn_R (σ1.1 40 0 24 + 1) by rw [e24]; unfold sn_R; omega) ?_)
                  refine ih (td.flatMap (pp T)).length (by rw [List.length_singleton] at hd; omega) (A ++ [t]) td _ _ rfl (by rw [List.append_assoc]; exact hA) (fun y hy => htd y (List.mem_cons_of_mem _ hy)) hB.2 (by rw [List.length_append, List.length_singleton]; omega) (rw_push (g := σ1.1 61 0) hAv (fun i hi => ?_) ?_) ?_ (fun j X hj => ?_) ⟨f1.1, fun a b c hn => ?_⟩
                  · show sn_u (sn_u σ1.1 61 0 (σ1.1 40 0 24).toNat (t : Int)) 40 0 24 (σ1.1 40 0 24 + 1) 61 0 i = _
                    rw [sn_u_n (by omega), sn_u_at, if_neg (by omega)]
                  · show sn_u (sn_u σ1.1 61 0 (σ1.1 40 0 24).toNat (t : Int)) 40 0 24 (σ1.1 40 0 24 + 1) 61 0 A.length = _
                    rw [sn_u_n (by omega), sn_u_at, if_pos (by omega)]
                  · show sn_u (sn_u σ1.1 61 0 (σ1.1 40 0 24).toNat (t : Int)) 40 0 24 (σ1.1 40 0 24 + 1) 40 0 24 = _
                    rw [sn_u_s, e24, List.length_append, List.length_singleton]
                    omega
                  · show sn_u (sn_u σ1.1 61 0 (σ1.1 40 0 24).toNat (t : Int)) 40 0 24 (σ1.1 40 0 24 + 1) 45 0 j = _
                    rw [sn_u_n (by omega), sn_u_n (by omega)]
                    exact hs' j X hj
                  · show sn_u (sn_u σ1.1 61 0 (σ1.1 40 0 24).toNat (t : Int)) 40 0 24 (σ1.1 40 0 24 + 1) a b c = _
                    rw [sn_u_n (fun z => hn (Or.inl ⟨z.1, z.2.2⟩)), sn_u_n (fun z => hn (Or.inr (Or.inr z.1)))]
                    exact f1.2 a b c hn
                · have k : ¬ σ1.1 41 0 t = 0 := k
                  rw [s0] at k
                  obtain ⟨-, l, r⟩ := tb_lr hT t9 k
                  rw [pp_j hT t9 k] at hd
                  rw [lf_j hT t9 k] at hA
                  have l1 := lf_pos hT (T.1 1 t).toNat (by omega)
                  have in0 : (0 : Int) ≤ (td.length : Int) ∧ (td.length : Int) < (100 : Nat) := by omega
                  have in1 : (0 : Int) ≤ (td.length : Int) + 1 ∧ (td.length : Int) + 1 < (100 : Nat) := by omega
                  refine And.intro it (And.intro in0 (And.intro (by unfold sn_R; omega) (And.intro it (And.intro in1 (And.intro (by unfold sn_R; omega) ?_)))))
                  have key := ih (((T.1 1 t).toNat :: (T.1 2 t).toNat :: td).flatMap (pp T)).length (by simp only [List.flatMap_cons, List.length_append, List.length_singleton] at hd ⊢; omega) A ((T.1 1 t).toNat :: (T.1 2 t).toNat :: td) (sn_u (sn_u σ1.1 45 0 td.length (σ1.1 43 0 t)) 45 0 (td.length + 1) (σ1.1 42 0 t), σ1.2) (some (.inl (t : Int))) rfl (by rw [List.flatMap_cons, List.flatMap_cons]; rw [List.append_assoc] at hA; exact hA) (fun y hy => ?_) ⟨?_, ?_, hB.2⟩ h9' (fun i g hg => ?_) ?_ ?_ (sn_fr_u (σ' := (sn_u σ1.1 45 0 td.length (σ1.1 43 0 t), σ1.2)) (sn_fr_u f1 (Or.inr (Or.inl rfl)) _) (Or.inr (Or.inl rfl)) _)
                  · have e2 : (((T.1 1 t).toNat :: (T.1 2 t).toNat :: td).length : Int) = (td.length : Int) + 2 := by simp only [List.length_cons]; omega
                    rw [e2] at key
                    have e3 : ((td.length : Int) + 1).toNat = td.length + 1 := by omega
                    show G 14 [some (.inr (.inr (40, 0))), some (.inl (f : Int)), some (.inl ((td.length : Int) + 2)), some (.inl (t : Int))] [] (sn_u (sn_u σ1.1 45 0 td.length (σ1.1 43 0 t)) 45 0 ((td.length : Int) + 1).toNat (sn_u σ1.1 45 0 td.length (σ1.1 43 0 t) 42 0 t), σ1.2)
                    rw [e3, sn_u_n (by omega)]
                    exact key
                  · rcases List.mem_cons.mp hy with rfl | hy
                    · omega
                    · rcases List.mem_cons.mp hy with rfl | hy
                      · omega
                      · exact htd y (List.mem_cons_of_mem _ hy)
                  · show (T.1 1 t).toNat + (td.length + 1) ≤ f
                    omega
                  · show (T.1 2 t).toNat + td.length ≤ f
                    omega
                  · show sn_u (sn_u σ1.1 45 0 td.length (σ1.1 43 0 t)) 45 0 (td.length + 1) (σ1.1 42 0 t) 61 0 i = _
                    rw [sn_u_n (by omega), sn_u_n (by omega)]
                    exact hAv i g hg
                  · show sn_u (sn_u σ1.1 45 0 td.length (σ1.1 43 0 t)) 45 0 (td.length + 1) (σ1.1 42 0 t) 40 0 24 = _
                    rw [sn_u_n (by omega), sn_u_n (by omega)]
                    exact e24
                  · have a1 : svi ((sn_u σ1.1 45 0 td.length (σ1.1 43 0 t)) 45 0) (((T.1 2 t).toNat : Int) :: td.map (fun (t : Nat) => (t : Int))) := by
                      refine svi_push hs' (fun j hj => ?_) ?_
                      · rw [List.length_map] at hj
                        rw [sn_u_at, if_neg (by omega)]
                      · rw [List.length_map, sn_u_at, if_pos rfl, s2]
                        exact r.2.2
                    refine svi_push a1 (fun j hj => ?_) ?_
                    · rw [List.length_map, List.length_cons] at hj
                      show sn_u (sn_u σ1.1 45 0 td.length (σ1.1 43 0 t)) 45 0 (td.length + 1) (σ1.1 42 0 t) 45 0 j = _
                      rw [sn_u_at, if_neg (by omega)]
                    · rw [List.length_map, List.length_cons]
                      show sn_u (sn_u σ1.1 45 0 td.length (σ1.1 43 0 t)) 45 0 (td.length + 1) (σ1.1 42 0 t) 45 0 (td.length + 1) = _
                      rw [sn_u_at, if_pos rfl, s1]
                      exact l.2.2
              have e1 : ((td.length + 1 : Nat) : Int) - 1 = (td.length : Int) := by omega
              refine hG 30 [38] _ _ _ _ ?_
              refine And.intro (fun z => ?_) (fun _ => And.intro (fun _ => And.intro (by unfold sn_R; rw [List.length_cons]; omega) (And.intro ?_ ?_)) (fun z => ?_))
              · have z : (((t :: td).length : Nat) : Int) ≤ 0 := z
                rw [List.length_cons] at z
                omega
              · show 0 ≤ (((t :: td).length : Nat) : Int) - 1 ∧ (((t :: td).length : Nat) : Int) - 1 < (100 : Nat)
                rw [List.length_cons]
                omega
              · show G 38 [some (.inr (.inr (40, 0))), some (.inl (f : Int)), some (.inl (((td.length + 1 : Nat) : Int) - 1)), some (.inl (σ1.1 45 0 (((td.length + 1 : Nat) : Int) - 1).toNat))] [] σ1
                rw [e1, etop]
                exact at38
              · have z : (9 : Int) ≤ σ1.1 40 0 24 := z
                omega
      refine hG 20 [14] _ _ _ _ ?_
      refine And.intro (show (0 : Int) ≤ 0 ∧ (0 : Int) < (100 : Nat) by omega) ?_
      refine loop _ [] [f] _ _ rfl (by rw [List.nil_append, List.flatMap_cons, List.flatMap_nil, List.append_nil]) (fun t ht => by rw [List.mem_singleton.mp ht]; exact hf) ⟨by rw [List.length_nil]; omega, trivial⟩ (by decide) (fun i g hg => by simp at hg) rfl ?_ ⟨rfl, fun a b c hn => ?_⟩
      · refine svi_push (g := fun _ => 0) (t := []) (fun j X h => by simp at h) (fun j hj => absurd hj (Nat.not_lt_zero j)) ?_
        show sn_u (sn_u σ.1 40 0 24 0) 45 0 0 (f : Int) 45 0 0 = _
        exact sn_u_s
      · show sn_u (sn_u σ.1 40 0 24 0) 45 0 0 (f : Int) a b c = _
        rw [sn_u_n (fun z => hn (Or.inr (Or.inl z.1))), sn_u_n (fun z => hn (Or.inl ⟨z.1, z.2.2⟩))]
    · exact h.elim
def ca_MD_fit : List (Nat × Nat × Nat × sn_P) := []
theorem co_MD_fit : ∀ x n ci s', sn_lk ca_MD_fit x = some (n, ci, s') → sn_CO "SwitchedNetsModel" sn_ws 0 x n ci s' := fun _ _ _ _ h => by cases h
def sp_MD_fit : sn_P := sn_wp pr_MD_fit (sn_lk ft_MD) (sn_lk lc_MD) (sn_lk ca_MD_fit) 3 35
theorem ct_MD_fit : sn_CT y_MD_fit ws_MD_fit 0 sp_MD_fit := sn_CT_wp 35 pl_MD pk_MD_fit FI_MD LC_MD co_MD_fit
theorem md_fit {T : fT} {f : Nat} {σ : sn_M} (hm : mt_v T σ) (hT : fT_ok T) (h80 : T.2 ≤ 80) (hf : f < T.2) (h8 : (lf T f).length ≤ 8) (hA : mlA T f σ) {k p : Nat} (hk : k < (lf T f).length) (hp : p < (lf T f).length) (po : Option sn_V → sn_M → Prop) (h1 : fit T (lf T f) k p = true → po (some (.inl 1)) σ) (h0 : ¬ fit T (lf T f) k p = true → po (some (.inl 0)) σ) : sp_MD_fit [.inr (.inr (40, 0)), .inl (k : Int), .inl (p : Int)] σ po := by
  have ak := mlA_at hA hk
  have ap := mlA_at hA hp
  have bk := (at_ok hT hf k).1
  have bp := (at_ok hT hf p).1
  have ik : (0 : Int) ≤ (k : Int) ∧ (k : Int) < (16 : Nat) := by omega
  have ip : (0 : Int) ≤ (p : Int) ∧ (p : Int) < (16 : Nat) := by omega
  have jk : 0 ≤ σ.1 61 0 k ∧ σ.1 61 0 k < (80 : Nat) := by rw [ak]; omega
  have jp : 0 ≤ σ.1 61 0 p ∧ σ.1 61 0 p < (80 : Nat) := by rw [ap]; omega
  have tk : (σ.1 61 0 k).toNat = (lf T f).getD k 0 := by rw [ak]; rfl
  have tp : (σ.1 61 0 p).toNat = (lf T f).getD p 0 := by rw [ap]; rfl
  obtain ⟨-, x1, x2⟩ := hm.1 _ bk
  obtain ⟨-, y1, y2⟩ := hm.1 _ bp
  have hfit : fit T (lf T f) k p = true ↔ (T.1 1 ((lf T f).getD k 0) = T.1 1 ((lf T f).getD p 0) ∧ ¬ T.1 2 ((lf T f).getD k 0) = T.1 2 ((lf T f).getD p 0)) := by unfold fit; rw [decide_eq_true_eq]
  refine fun G => And.intro ik (And.intro jk (And.intro ip (And.intro jp (And.intro (fun c => And.intro ik (And.intro jk (And.intro ip (And.intro jp (And.intro (fun d => And.intro (Or.inl rfl) (h0 (fun z => ?_))) (fun d => And.intro (Or.inr rfl) (h1 (hfit.mpr ⟨?_, ?_⟩)))))))) (fun c => And.intro (Or.inl rfl) (h0 (fun z => ?_)))))))
  · have d : σ.1 43 0 (σ.1 61 0 k).toNat = σ.1 43 0 (σ.1 61 0 p).toNat := d
    rw [tk, tp, x2, y2] at d
    exact (hfit.mp z).2 d
  · have c : σ.1 42 0 (σ.1 61 0 k).toNat = σ.1 42 0 (σ.1 61 0 p).toNat := c
    rw [tk, tp, x1, y1] at c
    exact c
  · have d : ¬ σ.1 43 0 (σ.1 61 0 k).toNat = σ.1 43 0 (σ.1 61 0 p).toNat := d
    rw [tk, tp, x2, y2] at d
    exact d
  · have c : ¬ σ.1 42 0 (σ.1 61 0 k).toNat = σ.1 42 0 (σ.1 61 0 p).toNat := c
    rw [tk, tp, x1, y1] at c
    exact c (hfit.mp z).1
