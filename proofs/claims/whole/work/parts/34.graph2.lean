/-! The reference's graph of a switching. -/
def gr_E (kd lf rt ty fr to : Nat → Int) (s : Int) (n : Nat) : List (Nat × Nat) := match n with
  | 0 => []
  | n + 1 => gr_E kd lf rt ty fr to s n ++ (if 0 ≤ ty n ∧ 0 ≤ to n ∧ gr_b kd lf rt to s n = true then [((fr n).toNat, (to n).toNat)] else [])
theorem gr_E_s (kd lf rt ty fr to : Nat → Int) (s : Int) (n : Nat) : gr_E kd lf rt ty fr to s (n + 1) = gr_E kd lf rt ty fr to s n ++ (if 0 ≤ ty n ∧ 0 ≤ to n ∧ gr_b kd lf rt to s n = true then [((fr n).toNat, (to n).toNat)] else []) := rfl
theorem gr_E_l (kd lf rt ty fr to : Nat → Int) (s : Int) (n : Nat) : (gr_E kd lf rt ty fr to s n).length ≤ n := by
  induction n with
  | zero => exact Nat.le_refl _
  | succ n ih =>
    rw [gr_E_s, List.length_append]
    split
    · exact Nat.succ_le_succ ih
    · exact Nat.le_succ_of_le ih
def md_E (σ : sn_M) (b : Nat) (s : Int) (n : Nat) : List (Nat × Nat) := gr_E (fun l => σ.1 49 0 (60 * b + l)) (fun l => σ.1 50 0 (60 * b + l)) (fun l => σ.1 51 0 (60 * b + l)) (fun l => σ.1 53 0 (100 * b + l)) (fun l => σ.1 54 0 (100 * b + l)) (fun l => σ.1 55 0 (100 * b + l)) s n
/-- what the graph of a switching is: round, in parts, or a tree -/
def gr_v (E : List (Nat × Nat)) (c : Int) : Int := if (jn_run E (fun x => x)).2 < E.length then 1 else if 1 < c - (jn_run E (fun x => x)).2 then 2 else 0
def gr_in (σ : sn_M) (b : Nat) : Prop := md_ok σ b ∧ (∀ e : Nat, (e : Int) < σ.1 47 0 b → (0 ≤ σ.1 54 0 (100 * b + e) ∧ σ.1 54 0 (100 * b + e) < 60) ∧ σ.1 55 0 (100 * b + e) < σ.1 46 0 b) ∧ ∀ t : Nat, (t : Int) < σ.1 46 0 b → cn_ct (fun l => σ.1 49 0 (60 * b + l)) 2 t < 32
def sp_MD_graph : sn_P := fun vs σ po => match vs with
  | [.inr (.inr q), .inl b, .inl s] => q = (40, 0) ∧ (0 ≤ b ∧ gr_in σ b.toNat) ∧ ∀ p : Nat → Int, po (some (.inl (gr_v (md_E σ b.toNat s (σ.1 47 0 b.toNat).toNat) (cn_ct (fun l => σ.1 49 0 (60 * b.toNat + l)) (-1) (σ.1 46 0 b.toNat).toNat)))) (sn_ov σ 58 0 p)
  | _ => False
theorem jn_one (r : Nat → Nat) (q : Nat × Nat) : jn_run [q] r = if r q.1 = r q.2 then (r, 0) else (jn_step r q.1 q.2, 1) := by
  rw [jn_run1]
  rfl
theorem sn_up_same {p : Nat → Int} {a : Nat} {x : Int} (h : p a = x) : sn_up p a x = p := by
  funext t
  unfold sn_up
  split
  · next e => rw [e, h]
  · rfl
def ca_MD_graph : List (Nat × Nat × Nat × sn_P) := [(108, 3, 8, sp_MD_isEdge), (119, 3, 8, sp_MD_count), (147, 4, 8, sp_MD_isJoined), (151, 2, 8, sp_MD_root)]
theorem co_MD_graph : ∀ x n ci s', sn_lk ca_MD_graph x = some (n, ci, s') → sn_CO "SwitchedNetsModel" sn_ws 1 x n ci s' := sn_co_of (List.forall_mem_cons.mpr ⟨sn_CO_V ("SwitchedNetsModel", T_MD, 29) ct_MD_isEdge (by decide) (by decide) (sn_gV ml_MD_108 mi_MD_isEdge ms_MD_isEdge mz_MD mc_MD_isEdge) (by decide) rfl rfl ⟨nh_MD.1, nh_MD.2, pn_MD_isEdge⟩, List.forall_mem_cons.mpr ⟨sn_CO_V ("SwitchedNetsModel", T_MD, 29) ct_MD_count (by decide) (by decide) (sn_gV ml_MD_119 mi_MD_count ms_MD_count mz_MD mc_MD_count) (by decide) rfl rfl ⟨nh_MD.1, nh_MD.2, pn_MD_count⟩, List.forall_mem_cons.mpr ⟨sn_CO_V ("SwitchedNetsModel", T_MD, 29) ct_MD_isJoined (by decide) (by decide) (sn_gV ml_MD_147 mi_MD_isJoined ms_MD_isJoined mz_MD mc_MD_isJoined) (by decide) rfl rfl ⟨nh_MD.1, nh_MD.2, pn_MD_isJoined⟩, List.forall_mem_cons.mpr ⟨sn_CO_V ("SwitchedNetsModel", T_MD, 29) ct_MD_root (by decide) (by decide) (sn_gV ml_MD_151 mi_MD_root ms_MD_root mz_MD mc_MD_root) (by decide) rfl rfl ⟨nh_MD.1, nh_MD.2, pn_MD_root⟩, fun _ h => absurd h List.not_mem_nil⟩⟩⟩⟩)
theorem ct_MD_graph : sn_CT y_MD_graph ws_MD_graph 1 sp_MD_graph := by
  refine sn_CT_of (pr := pr_MD_graph) (fi := (sn_lk ft_MD)) (lc := (sn_lk lc_MD)) (ca := sn_lk ca_MD_graph) pl_MD ?_ pk_MD_graph FI_MD LC_MD co_MD_graph ?_
  · intro vs σ post h
    unfold sp_MD_graph at h
    split at h
    · exact Nat.le_of_ble_eq_true rfl
    · exact h.elim
  · intro vs σ post h hvs hR
    unfold sp_MD_graph at h
    split at h
    · next q b s =>
      obtain ⟨rfl, ⟨hb0, hok, hed, hpc⟩, h⟩ := h
      intro G hG
      obtain ⟨bn, rfl⟩ := Int.eq_ofNat_of_zero_le hb0
      have hok : md_ok σ bn := hok
      have hok2 := hok
      obtain ⟨hb4, ⟨hl0, hl1⟩, hn0, hn1⟩ := hok2
      have hed0 : ∀ e : Nat, (e : Int) < σ.1 47 0 bn → (0 ≤ σ.1 54 0 (100 * bn + e) ∧ σ.1 54 0 (100 * bn + e) < 60) ∧ σ.1 55 0 (100 * bn + e) < σ.1 46 0 bn := hed
      have hed : ∀ e : Nat, (e : Int) < σ.1 47 0 bn → (0 ≤ σ.1 54 0 (100 * bn + e) ∧ σ.1 54 0 (100 * bn + e) < 60) ∧ σ.1 55 0 (100 * bn + e) < 60 := fun e he => ⟨(hed0 e he).1, by have := (hed0 e he).2; omega⟩
      have hpc : ∀ t : Nat, (t : Int) < σ.1 46 0 bn → cn_ct (fun l => σ.1 49 0 (60 * bn + l)) 2 t < 32 := hpc
      obtain ⟨n, hn⟩ := Int.eq_ofNat_of_zero_le hn0
      have h : ∀ p : Nat → Int, post (some (.inl (gr_v (md_E σ bn s (σ.1 47 0 bn).toNat) (cn_ct (fun l => σ.1 49 0 (60 * bn + l)) (-1) (σ.1 46 0 bn).toNat)))) (sn_ov σ 58 0 p) := h
      rw [hn] at h
      have hnn : ((n : Int)).toNat = n := rfl
      rw [hnn] at h
      have hC := cn_ct_b (fun l => σ.1 49 0 (60 * bn + l)) (-1) (σ.1 46 0 bn).toNat
      generalize hCe : cn_ct (fun l => σ.1 49 0 (60 * bn + l)) (-1) (σ.1 46 0 bn).toNat = C at h hC
      have hib : (0 : Int) ≤ (bn : Int) ∧ (bn : Int) < (4 : Nat) := ⟨by omega, by omega⟩
      have loop2 : ∀ (d i : Nat) (p : Nat → Int) (o6 o7 : Option sn_V), n - i = d → i ≤ n → uf_ok 60 p (jn_run (md_E σ bn s i) (fun x => x)).2 (jn_run (md_E σ bn s i) (fun x => x)).1 →
          G 34 [some (.inr (.inr (40, 0))), some (.inl (bn : Int)), some (.inl s), some (.inl (C - (jn_run (md_E σ bn s i) (fun x => x)).2)), some (.inl (if (jn_run (md_E σ bn s i) (fun x => x)).2 < (md_E σ bn s i).length then 1 else 0)), some (.inl (i : Int)), o6, o7] [] (sn_ov σ 58 0 p) := by
        intro d
        induction d with
        | zero =>
          intro i p o6 o7 hd hi hu
          have e : i = n := by omega
          subst e
          have hp := h p
          unfold gr_v at hp
          refine hG 120 [34] _ _ _ _ ?_
          refine And.intro hib (And.intro (fun c1 => ?_) (fun c1 => And.intro (fun c2 => And.intro (fun c3 => ?_) (fun c3 => ?_)) (fun c2 => ?_)))
          · have c1 : (i : Int) < σ.1 47 0 bn := c1
            omega
          · have c3 : C - ((jn_run (md_E σ bn s i) (fun x => x)).2 : Int) ≤ 1 := c3
            by_cases hz : (jn_run (md_E σ bn s i) (fun x => x)).2 < (md_E σ bn s i).length
            · rw [if_pos hz] at c2; exact absurd c2 (by decide)
            · rw [if_neg hz, if_neg (by omega)] at hp
              exact hp
          · have c3 : 1 < C - ((jn_run (md_E σ bn s i) (fun x => x)).2 : Int) := c3
            by_cases hz : (jn_run (md_E σ bn s i) (fun x => x)).2 < (md_E σ bn s i).length
            · rw [if_pos hz] at c2; exact absurd c2 (by decide)
            · rw [if_neg hz, if_pos c3] at hp
              exact hp
          · by_cases hz : (jn_run (md_E σ bn s i) (fun x => x)).2 < (md_E σ bn s i).length
            · rw [if_pos hz] at hp
              exact hp
            · rw [if_neg hz] at c2; exact absurd rfl c2
        | succ d ih =>
          intro i p o6 o7 hd hi hu
          have hlt : i < n := by omega
          have hr : sn_R ((i : Int) + 1) := ⟨by omega, by omega⟩
          have q1 : sn_R (100 * (bn : Int)) := ⟨by omega, by omega⟩
          have q2 : sn_R (100 * (bn : Int) + (i : Int)) := ⟨by omega, by omega⟩
          have q3 : (0 : Int) ≤ 100 * (bn : Int) + (i : Int) ∧ 100 * (bn : Int) + (i : Int) < (400 : Nat) := ⟨by omega, by omega⟩
          obtain ⟨⟨f0, f1⟩, t1⟩ := hed i (by omega)
          have hle := jn_le (md_E σ bn s i) (fun x => x)
          have hEl : (md_E σ bn s i).length ≤ i := gr_E_l _ _ _ _ _ _ s i
          have go : ∀ (i' : Nat) (p' : Nat → Int) (x y : Int) (o6 o7 : Option sn_V), i' = i + 1 → x = C - (jn_run (md_E σ bn s i') (fun x => x)).2 → y = (if (jn_run (md_E σ bn s i') (fun x => x)).2 < (md_E σ bn s i').length then 1 else 0) → uf_ok 60 p' (jn_run (md_E σ bn s i') (fun x => x)).2 (jn_run (md_E σ bn s i') (fun x => x)).1 →
              G 34 [some (.inr (.inr (40, 0))), some (.inl (bn : Int)), some (.inl s), some (.inl x), some (.inl y), some (.inl ((i : Int) + 1)), o6, o7] [] (sn_ov σ 58 0 p') := by
            intro i' p' x y o6 o7 hi' hx hy hu'
            subst hx; subst hy; subst hi'
            exact ih (i + 1) p' o6 o7 (by omega) (by omega) hu'
          have skip : ¬ (0 ≤ σ.1 53 0 (100 * bn + i) ∧ 0 ≤ σ.1 55 0 (100 * bn + i) ∧ gr_b (fun l => σ.1 49 0 (60 * bn + l)) (fun l => σ.1 50 0 (60 * bn + l)) (fun l => σ.1 51 0 (60 * bn + l)) (fun l => σ.1 55 0 (100 * bn + l)) s i = true) →
              G 34 [some (.inr (.inr (40, 0))), some (.inl (bn : Int)), some (.inl s), some (.inl (C - (jn_run (md_E σ bn s i) (fun x => x)).2)), some (.inl (if (jn_run (md_E σ bn s i) (fun x => x)).2 < (md_E σ bn s i).length then 1 else 0)), some (.inl ((i : Int) + 1)), o6, o7] [] (sn_ov σ 58 0 p) := by
            intro hno
            have e : md_E σ bn s (i + 1) = md_E σ bn s i := by
              unfold md_E
              rw [gr_E_s, if_neg hno, List.append_nil]
            exact go (i + 1) p _ _ o6 o7 rfl (by rw [e]) (by rw [e]) (by rw [e]; exact hu)
          refine hG 120 [34] _ _ _ _ ?_
          refine And.intro hib (And.intro (fun c1 => ?_) (fun c1 => ?_))
          · refine And.intro rfl (And.intro ⟨hb0, hok⟩ ?_)
            by_cases he : md_e σ bn (i : Int)
            · rw [show (if md_e (sn_ov σ 58 0 p) (Int.toNat (bn : Int)) (i : Int) then (1 : Int) else 0) = 1 from if_pos he]
              refine And.intro (fun z => absurd z (by decide)) (fun _ => And.intro q1 (And.intro q2 (And.intro q3 (And.intro (fun c2 => ?_) (fun c2 => ?_)))))
              · have c2 : σ.1 55 0 (100 * bn + i) < 0 := c2
                exact And.intro hr (skip (fun z => by have := z.2.1; omega))
              · have c2 : 0 ≤ σ.1 55 0 (100 * bn + i) := c2
                refine And.intro rfl (And.intro ⟨hb0, by omega, by omega, by omega, c2, t1, hpc _ (by have t1' : σ.1 55 0 (100 * bn + i) < σ.1 46 0 bn := (hed0 i (by omega)).2; have c2' : 0 ≤ σ.1 55 0 (100 * bn + i) := c2; show ((σ.1 55 0 (100 * bn + i)).toNat : Int) < σ.1 46 0 bn; omega)⟩ ?_)
                by_cases hj : gr_b (fun l => σ.1 49 0 (60 * bn + l)) (fun l => σ.1 50 0 (60 * bn + l)) (fun l => σ.1 51 0 (60 * bn + l)) (fun l => σ.1 55 0 (100 * bn + l)) s i = true
                · rw [show (if gr_b (fun l => (sn_ov σ 58 0 p).1 49 0 (60 * (Int.toNat (bn : Int)) + l)) (fun l => (sn_ov σ 58 0 p).1 50 0 (60 * (Int.toNat (bn : Int)) + l)) (fun l => (sn_ov σ 58 0 p).1 51 0 (60 * (Int.toNat (bn : Int)) + l)) (fun l => (sn_ov σ 58 0 p).1 55 0 (100 * (Int.toNat (bn : Int)) + l)) s (Int.toNat (i : Int)) = true then (1 : Int) else 0) = 1 from if_pos hj]
                  have e : md_E σ bn s (i + 1) = md_E σ bn s i ++ [((σ.1 54 0 (100 * bn + i)).toNat, (σ.1 55 0 (100 * bn + i)).toNat)] := by
                    unfold md_E
                    rw [gr_E_s, if_pos ⟨he.2.2, c2, hj⟩]
                  have hu60 : (σ.1 54 0 (100 * bn + i)).toNat < 60 := by omega
                  have hv60 : (σ.1 55 0 (100 * bn + i)).toNat < 60 := by omega
                  obtain ⟨ru, pu, -⟩ := hu.2 _ hu60
                  obtain ⟨rv, pv, -⟩ := hu.2 _ hv60
                  have eapp := jn_app (md_E σ bn s i) [((σ.1 54 0 (100 * bn + i)).toNat, (σ.1 55 0 (100 * bn + i)).toNat)] (fun x => x)
                  rw [← e, jn_one] at eapp
                  have elen : (md_E σ bn s (i + 1)).length = (md_E σ bn s i).length + 1 := by rw [e, List.length_append]; rfl
                  generalize hSe : (jn_run (md_E σ bn s i) (fun x => x)).2 = S at hu eapp hle skip
                  generalize hRe : (jn_run (md_E σ bn s i) (fun x => x)).1 = R at hu eapp ru pu rv pv
                  generalize huE : (σ.1 54 0 (100 * bn + i)).toNat = u at hu60 ru pu eapp
                  generalize hvE : (σ.1 55 0 (100 * bn + i)).toNat = v at hv60 rv pv eapp
                  have bu : (0 : Int) ≤ (R u : Nat) ∧ ((R u : Nat) : Int) < (60 : Nat) := ⟨by omega, by omega⟩
                  have rp : sn_R (C - (S : Int) - 1) := ⟨by omega, by omega⟩
                  -- the two ways on
                  have same : R u = R v → ∀ o6 o7 : Option sn_V, G 34 [some (.inr (.inr (40, 0))), some (.inl (bn : Int)), some (.inl s), some (.inl (C - (S : Int))), some (.inl 1), some (.inl ((i : Int) + 1)), o6, o7] [] (sn_u (sn_ov σ 58 0 p).1 58 0 (R u) (R v : Nat), (sn_ov σ 58 0 p).2) := by
                    intro huv o6 o7
                    rw [sn_ov_u, sn_up_same (by rw [pu, huv])]
                    have e2 : jn_run (md_E σ bn s (i + 1)) (fun x => x) = (R, S) := by
                      rw [eapp, if_pos huv]
                      rfl
                    exact go (i + 1) p _ _ o6 o7 rfl (by rw [e2]) (by rw [e2, if_pos (by rw [elen]; show S < _; omega)]) (by rw [e2]; exact hu)
                  have diff : R u ≠ R v → ∀ (y : Int) (o6 o7 : Option sn_V), y = (if S < (md_E σ bn s i).length then 1 else 0) → G 34 [some (.inr (.inr (40, 0))), some (.inl (bn : Int)), some (.inl s), some (.inl (C - (S : Int) - 1)), some (.inl y), some (.inl ((i : Int) + 1)), o6, o7] [] (sn_u (sn_ov σ 58 0 p).1 58 0 (R u) (R v : Nat), (sn_ov σ 58 0 p).2) := by
                    intro huv y o6 o7 hy
                    rw [sn_ov_u]
                    have e2 : jn_run (md_E σ bn s (i + 1)) (fun x => x) = (jn_step R u v, S + 1) := by
                      rw [eapp, if_neg huv]
                    refine go (i + 1) _ _ _ o6 o7 rfl (by rw [e2]; show _ = C - ((S + 1 : Nat) : Int); omega) ?_ (by rw [e2]; exact uf_join hu hu60 hv60 huv)
                    rw [e2, elen, hy]
                    by_cases hz : S < (md_E σ bn s i).length
                    · rw [if_pos hz, if_pos (by show S + 1 < _; omega)]
                    · rw [if_neg hz, if_neg (by show ¬ (S + 1 < _); omega)]
                  refine And.intro (fun z => absurd z (by decide)) (fun _ => And.intro q1 (And.intro q2 (And.intro q3 (And.intro rfl (And.intro ⟨f0, f1⟩ ⟨S, R, hu, And.intro q1 (And.intro q2 (And.intro q3 (And.intro rfl (And.intro ⟨c2, t1⟩ ⟨S, R, hu, ?_⟩))))⟩)))))
                  rw [show ((sn_ov σ 58 0 p).1 54 0 (100 * (bn : Int) + (i : Int)).toNat).toNat = u from huE, show ((sn_ov σ 58 0 p).1 55 0 (100 * (bn : Int) + (i : Int)).toNat).toNat = v from hvE]
                  refine And.intro (fun d1 => And.intro (fun d2 => And.intro (fun d3 => And.intro bu (And.intro hr ?_)) (fun d3 => absurd d2 d3)) (fun d2 => And.intro (fun d3 => absurd d3 d2) (fun d3 => And.intro rp (And.intro bu (And.intro hr ?_))))) (fun d1 => And.intro (fun d3 => And.intro bu (And.intro hr ?_)) (fun d3 => And.intro rp (And.intro bu (And.intro hr ?_))))
                  · exact same (Int.ofNat.inj d2) _ _
                  · refine diff (fun z => d2 (congrArg Int.ofNat z)) _ _ _ ?_
                    exact d1.symm
                  · exact same (Int.ofNat.inj d3) _ _
                  · refine diff (fun z => d3 (congrArg Int.ofNat z)) _ _ _ ?_
                    by_cases hz : S < (md_E σ bn s i).length
                    · rw [if_pos hz]
                    · rw [if_neg hz] at d1
                      exact absurd rfl d1
                · rw [show (if gr_b (fun l => (sn_ov σ 58 0 p).1 49 0 (60 * (Int.toNat (bn : Int)) + l)) (fun l => (sn_ov σ 58 0 p).1 50 0 (60 * (Int.toNat (bn : Int)) + l)) (fun l => (sn_ov σ 58 0 p).1 51 0 (60 * (Int.toNat (bn : Int)) + l)) (fun l => (sn_ov σ 58 0 p).1 55 0 (100 * (Int.toNat (bn : Int)) + l)) s (Int.toNat (i : Int)) = true then (1 : Int) else 0) = 0 from if_neg hj]
                  exact And.intro (fun _ => And.intro hr (skip (fun z => hj z.2.2))) (fun z => absurd rfl z)
            · rw [show (if md_e (sn_ov σ 58 0 p) (Int.toNat (bn : Int)) (i : Int) then (1 : Int) else 0) = 0 from if_neg he]
              exact And.intro (fun _ => And.intro hr (skip (fun z => he ⟨by omega, by omega, z.1⟩))) (fun z => absurd rfl z)
          · have c1 : σ.1 47 0 bn ≤ (i : Int) := c1
            omega
      have loop1 : ∀ (d i : Nat) (p : Nat → Int), 60 - i = d → i ≤ 60 → (∀ x, x < i → p x = (x : Int)) → G 2 [some (.inr (.inr (40, 0))), some (.inl (bn : Int)), some (.inl s), some (.inl (i : Int)), none, none, none, none] [] (sn_ov σ 58 0 p) := by
        intro d
        induction d with
        | zero =>
          intro i p hd hi hp
          have e : i = 60 := by omega
          subst e
          refine hG 60 [2, 34] _ _ _ _ ?_
          refine And.intro (fun c1 => absurd c1 (by decide)) (fun c1 => And.intro rfl (And.intro ⟨hb0, hok⟩ ?_))
          have hl2 := loop2 n 0 p none none (by omega) (by omega) (uf_id (fun x hx => hp x hx))
          rw [← hCe] at hl2
          have e0 : cn_ct (fun l => σ.1 49 0 (60 * bn + l)) (-1) (σ.1 46 0 bn).toNat - ((jn_run (md_E σ bn s 0) (fun x => x)).2 : Int) = cn_ct (fun l => σ.1 49 0 (60 * bn + l)) (-1) (σ.1 46 0 bn).toNat := Int.sub_zero _
          rw [e0] at hl2
          exact hl2
        | succ d ih =>
          intro i p hd hi hp
          have hr : sn_R ((i : Int) + 1) := ⟨by omega, by omega⟩
          have hb : (0 : Int) ≤ (i : Int) ∧ (i : Int) < (60 : Nat) := ⟨by omega, by omega⟩
          refine hG 60 [2, 34] _ _ _ _ ?_
          refine And.intro (fun c1 => And.intro hb (And.intro hr ?_)) (fun c1 => ?_)
          · have hi2 := ih (i + 1) (sn_up p i i) (by omega) (by omega) (fun x hx => by
              unfold sn_up
              split
              · next e => rw [e]
              · next e => exact hp x (by omega))
            rw [← sn_ov_u] at hi2
            exact hi2
          · have c1 : (60 : Int) ≤ (i : Int) := c1
            omega
      refine hG 60 [2] _ _ _ _ ?_
      have hl1 := loop1 60 0 (σ.1 58 0) (by omega) (by omega) (fun x hx => by omega)
      rw [sn_ov_rf] at hl1
      exact hl1
    · exact h.elim
