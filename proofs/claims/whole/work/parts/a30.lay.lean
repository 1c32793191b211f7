/-! The reference: a linking is laid. -/
def sp_MD_edgeOf : sn_P := fun vs σ po => match vs with
  | [.inr (.inr q), .inl b, .inl x] => q = (40, 0) ∧ ∃ (c k n : Nat) (g : Nat → Int), b = (c : Int) ∧ c < 4 ∧ x = (k : Int) ∧ k < n ∧ n ≤ 8 ∧ mat g n ∧ (∀ j, j < n → σ.1 62 0 j = g j) ∧ ((k : Int) < g k → po (some (.inl (σ.1 50 0 (60 * c + ox g k)))) σ) ∧ (¬ (k : Int) < g k → po (some (.inl (σ.1 51 0 (60 * c + ox g (g k).toNat)))) σ)
  | _ => False
def ca_MD_edgeOf : List (Nat × Nat × Nat × sn_P) := []
theorem co_MD_edgeOf : ∀ x n ci s', sn_lk ca_MD_edgeOf x = some (n, ci, s') → sn_CO "SwitchedNetsModel" sn_ws 0 x n ci s' := fun _ _ _ _ h => by cases h
set_option maxHeartbeats 4000000 in
theorem ct_MD_edgeOf : sn_CT y_MD_edgeOf ws_MD_edgeOf 0 sp_MD_edgeOf := by
  refine sn_CT_of (pr := pr_MD_edgeOf) (fi := (sn_lk ft_MD)) (lc := (sn_lk lc_MD)) (ca := sn_lk ca_MD_edgeOf) pl_MD ?_ pk_MD_edgeOf FI_MD LC_MD co_MD_edgeOf ?_
  · intro vs σ post h
    unfold sp_MD_edgeOf at h
    split at h
    · exact Nat.le_of_ble_eq_true rfl
    · exact h.elim
  · intro vs σ post h hvs hR
    unfold sp_MD_edgeOf at h
    split at h
    · next q b x =>
      obtain ⟨rfl, c, k, n, g, rfl, hc, rfl, hk, hn, hm, hg, h1, h0⟩ := h
      intro G hG
      obtain ⟨r, r1, r2, r3, r4⟩ := hm k hk
      have gk := hg k hk
      have ik : (0 : Int) ≤ (k : Int) ∧ (k : Int) < (8 : Nat) := by omega
      have rc : sn_R ((60 : Int) * (c : Int)) := by unfold sn_R; omega
      have loop : ∀ (ls : Nat), ls < n → (ls = k → (k : Int) < g k) → (ls ≠ k → ¬ (k : Int) < g k ∧ ls = r) → ∀ (d j : Nat), ls - j = d → j ≤ ls → G 27 [some (.inr (.inr (40, 0))), some (.inl (c : Int)), some (.inl (k : Int)), some (.inl (ls : Int)), some (.inl (ox g j : Int)), some (.inl (j : Int))] [] σ := by
        intro ls hls he hne d
        induction d with
        | zero =>
          intro j hd hj
          have ej : j = ls := by omega
          subst ej
          have ol := ox_le g j
          have ra : sn_R ((60 : Int) * (c : Int) + (ox g j : Int)) := by unfold sn_R; omega
          have ia : (0 : Int) ≤ (60 : Int) * (c : Int) + (ox g j : Int) ∧ (60 : Int) * (c : Int) + (ox g j : Int) < (240 : Nat) := by omega
          have ta : ((60 : Int) * (c : Int) + (ox g j : Int)).toNat = 60 * c + ox g j := by omega
          refine hG 40 [27] _ _ _ _ ?_
          refine And.intro (fun z => ?_) (fun _ => And.intro (fun e => ?_) (fun e => ?_))
          · have z : (j : Int) < (j : Int) := z
            omega
          · have e : (k : Int) = (j : Int) := e
            have ek : j = k := by omega
            have g1 := h1 (he ek)
            subst ek
            rw [← ta] at g1
            exact And.intro rc (And.intro ra (And.intro ia g1))
          · have e : ¬ (k : Int) = (j : Int) := e
            obtain ⟨y1, y2⟩ := hne (by omega)
            have g0 := h0 y1
            rw [r1, show ((r : Int)).toNat = r from rfl, ← y2, ← ta] at g0
            exact And.intro rc (And.intro ra (And.intro ia g0))
        | succ d ih =>
          intro j hd hj
          have gj := hg j (by omega)
          have ol := ox_le g j
          refine hG 40 [27] _ _ _ _ ?_
          refine And.intro (fun _ => And.intro (show (0 : Int) ≤ (j : Int) ∧ (j : Int) < (8 : Nat) by omega) (And.intro (fun z => ?_) (fun z => ?_))) (fun z => ?_)
          · have z : σ.1 62 0 j ≤ (j : Int) := z
            rw [gj] at z
            have key := ih (j + 1) (by omega) (by omega)
            rw [ox_s, if_neg (by omega), Nat.add_zero] at key
            exact And.intro (by unfold sn_R; omega) key
          · have z : (j : Int) < σ.1 62 0 j := z
            rw [gj] at z
            have key := ih (j + 1) (by omega) (by omega)
            rw [ox_s, if_pos z] at key
            exact And.intro (by unfold sn_R; omega) (And.intro (by unfold sn_R; omega) key)
          · have z : (ls : Int) ≤ (j : Int) := z
            omega
      refine hG 30 [27] _ _ _ _ ?_
      refine And.intro ik (And.intro (fun z => And.intro ik ?_) (fun z => ?_))
      · have z : σ.1 62 0 k < (k : Int) := z
        rw [gk, r1] at z
        have key := loop r r2 (fun y => by omega) (fun _ => ⟨by omega, rfl⟩) r 0 rfl (Nat.zero_le _)
        show G 27 [some (.inr (.inr (40, 0))), some (.inl (c : Int)), some (.inl (k : Int)), some (.inl (σ.1 62 0 k)), some (.inl 0), some (.inl 0)] [] σ
        rw [gk, r1]
        exact key
      · have z : (k : Int) ≤ σ.1 62 0 k := z
        rw [gk, r1] at z
        exact loop k hk (fun _ => by omega) (fun y => absurd rfl y) k 0 rfl (Nat.zero_le _)
    · exact h.elim
def sp_MD_emp : sn_P := sn_wp pr_MD_empty (sn_lk ft_MD) (sn_lk lc_MD) (sn_lk ca_MD_empty) 2 17
theorem ct_MD_emp : sn_CT y_MD_empty ws_MD_empty 0 sp_MD_emp := sn_CT_wp 17 pl_MD pk_MD_empty FI_MD LC_MD co_MD_empty
def ly_P (b a i c : Nat) : Prop := cp_P b a i c ∨ a = 45 ∨ a = 63
/-- what is still to do -/
def fla (T : fT) (td : List Nat) : List Nat := td.flatMap (fun e => if e % 2 = 0 then pp T (e / 2) else [e / 2])
def nu (T : fT) : List Nat → Nat
  | [] => 0
  | e :: td => (if e % 2 = 0 then 2 * (pp T (e / 2)).length else 1) + nu T td
theorem fla_c (T : fT) (e : Nat) (td : List Nat) : fla T (e :: td) = (if e % 2 = 0 then pp T (e / 2) else [e / 2]) ++ fla T td := List.flatMap_cons
theorem pp_pos (T : fT) (f : Nat) : 1 ≤ (pp T f).length := by
  unfold pp
  rw [pst_s]
  split
  · exact Nat.le_refl _
  · rw [List.length_append, List.length_singleton]
    omega
theorem fla_len (T : fT) : ∀ td : List Nat, td.length ≤ (fla T td).length := by
  intro td
  induction td with
  | nil => exact Nat.le_refl _
  | cons e td ih =>
    rw [fla_c, List.length_append, List.length_cons]
    have : 1 ≤ (if e % 2 = 0 then pp T (e / 2) else [e / 2]).length := by
      split
      · exact pp_pos T _
      · exact Nat.le_refl _
    omega
def sp_MD_lay : sn_P := fun vs σ po => match vs with
  | [.inr (.inr q), .inl b, .inl x] => q = (40, 0) ∧ ∃ (T : fT) (f c : Nat) (g : Nat → Int), b = (c : Int) ∧ c < 4 ∧ mt_v T σ ∧ fT_ok T ∧ T.2 ≤ 80 ∧ x = (f : Int) ∧ f < T.2 ∧ (lf T f).length ≤ 8 ∧ matT T (lf T f) g (lf T f).length ∧ mlA T f σ ∧ (∀ k, k < (lf T f).length → σ.1 62 0 k = g k) ∧ ∀ (S : sT) (σ' : sn_M), my_v (asm T f g S) c σ' → sn_fr (ly_P c) σ σ' → po none σ'
  | _ => False
def ca_MD_lay : List (Nat × Nat × Nat × sn_P) := [(123, 2, 8, sp_MD_emp), (130, 4, 8, sp_MD_addAxiom), (136, 6, 8, sp_MD_addPair), (140, 3, 8, sp_MD_name), (220, 3, 8, sp_MD_edgeOf)]
theorem co_MD_lay : ∀ x n ci s', sn_lk ca_MD_lay x = some (n, ci, s') → sn_CO "SwitchedNetsModel" sn_ws 2 x n ci s' := sn_co_of (List.forall_mem_cons.mpr ⟨sn_CO_V ("SwitchedNetsModel", T_MD, 29) ct_MD_emp (by decide) (by decide) (sn_gV ml_MD_123 mi_MD_empty ms_MD_empty mz_MD mc_MD_empty) (by decide) rfl rfl ⟨nh_MD.1, nh_MD.2, pn_MD_empty⟩, List.forall_mem_cons.mpr ⟨sn_CO_V ("SwitchedNetsModel", T_MD, 29) ct_MD_addAxiom (by decide) (by decide) (sn_gV ml_MD_130 mi_MD_addAxiom ms_MD_addAxiom mz_MD mc_MD_addAxiom) (by decide) rfl rfl ⟨nh_MD.1, nh_MD.2, pn_MD_addAxiom⟩, List.forall_mem_cons.mpr ⟨sn_CO_V ("SwitchedNetsModel", T_MD, 29) ct_MD_addPair (by decide) (by decide) (sn_gV ml_MD_136 mi_MD_addPair ms_MD_addPair mz_MD mc_MD_addPair) (by decide) rfl rfl ⟨nh_MD.1, nh_MD.2, pn_MD_addPair⟩, List.forall_mem_cons.mpr ⟨sn_CO_V ("SwitchedNetsModel", T_MD, 29) ct_MD_name (by decide) (by decide) (sn_gV ml_MD_140 mi_MD_name ms_MD_name mz_MD mc_MD_name) (by decide) rfl rfl ⟨nh_MD.1, nh_MD.2, pn_MD_name⟩, List.forall_mem_cons.mpr ⟨sn_CO_V ("SwitchedNetsModel", T_MD, 29) ct_MD_edgeOf (by decide) (by decide) (sn_gV ml_MD_220 mi_MD_edgeOf ms_MD_edgeOf mz_MD mc_MD_edgeOf) (by decide) rfl rfl ⟨nh_MD.1, nh_MD.2, pn_MD_edgeOf⟩, fun _ h => absurd h List.not_mem_nil⟩⟩⟩⟩⟩)
set_option maxHeartbeats 8000000 in
theorem ct_MD_lay : sn_CT y_MD_lay ws_MD_lay 2 sp_MD_lay := by
  refine sn_CT_of (pr := pr_MD_lay) (fi := (sn_lk ft_MD)) (lc := (sn_lk lc_MD)) (ca := sn_lk ca_MD_lay) pl_MD ?_ pk_MD_lay FI_MD LC_MD co_MD_lay ?_
  · intro vs σ post h
    unfold sp_MD_lay at h
    split at h
    · exact Nat.le_of_ble_eq_true rfl
    · exact h.elim
  · intro vs σ post h hvs hR
    unfold sp_MD_lay at h
    split at h
    · next q b x =>
      obtain ⟨rfl, T, f, c, g, rfl, hc, hm, hT, h80, rfl, hf, hn, hmat, hA, hg, hpo⟩ := h
      intro G hG
      have n1 := lf_pos hT f hf
      have plen := pp_len hT f hf
      have keep : ∀ σ1, sn_fr (ly_P c) σ σ1 → mt_v T σ1 ∧ mlA T f σ1 ∧ ∀ k, k < (lf T f).length → σ1.1 62 0 k = g k := by
        intro σ1 f1
        have no : ∀ a k, (a = 40 ∨ a = 41 ∨ a = 42 ∨ a = 43 ∨ a = 61 ∨ a = 62) → ¬ ly_P c a 0 k := fun a k ha z => by
          rcases z with z | z
          · have := cp_46 z; omega
          · omega
        refine ⟨mt_v_fr hm f1 (fun a k h1 h2 => no a k (by omega)) (no 40 1 (by omega)), ⟨fun i g hg => by rw [f1.2 61 0 i (no 61 i (by omega))]; exact hA.1 i g hg, by rw [f1.2 40 0 24 (no 40 24 (by omega))]; exact hA.2⟩, fun k hk => by rw [f1.2 62 0 k (no 62 k (by omega))]; exact hg k hk⟩
      have cpf : ∀ {σ1 σ2 : sn_M}, sn_fr (cp_P c) σ1 σ2 → sn_fr (ly_P c) σ1 σ2 := fun f => sn_fr_w f (fun a b k z => Or.inl z)
      have myk : ∀ {S : sT} {σ1 : sn_M} (a k : Nat) (v : Int), a = 45 ∨ a = 63 → my_v S c σ1 → my_v S c (sn_u σ1.1 a 0 k v, σ1.2) := fun {S σ1} a k v ha h => my_v_fr (P := fun a' _ _ => a' = a) h (sn_fr_u (sn_fr_rf _ σ1) rfl v) (fun a' k' q z => by have := cp_46 q; omega)
      let S0 : sT := (fun a l => if a < 4 then σ.1 (49 + a) 0 (60 * c + l) else σ.1 (49 + a) 0 (100 * c + l), 0, 0, 0)
      obtain ⟨Sf, ef, fin, eA, ro, okA, c0, ef0, ef1⟩ := asm_ok hT hf (g := g) S0 hn hmat
      have ic : (0 : Int) ≤ (c : Int) ∧ (c : Int) < (4 : Nat) := by omega
      -- the parts
      have two : ∀ (d : Nat) (x : jT) (td : List Nat) (σ1 : sn_M) (o6 o7 : Option sn_V), nu T td = d → (fla T td).length ≤ (pp T f).length → (∀ e ∈ td, e / 2 < T.2) → rok T (lf T f).length g x (fla T td) → (fla T td).foldl (js T g) x = (Sf, [ef], (lf T f).length) → my_v x.1 c σ1 → (∀ j, j < (lf T f).length → (j : Int) < g j → x.1.1 1 (ox g j) = 2 * (ox g j : Int) ∧ x.1.1 2 (ox g j) = 2 * (ox g j : Int) + 1 ∧ ox g j < x.1.2.1) → svi (σ1.1 63 0) x.2.1 → svi (σ1.1 45 0) (td.map (fun (t : Nat) => (t : Int))) → sn_fr (ly_P c) σ σ1 → G 71 [some (.inr (.inr (40, 0))), some (.inl (c : Int)), some (.inl (f : Int)), some (.inl (td.length : Int)), some (.inl (x.2.1.length : Int)), some (.inl (x.2.2 : Int)), o6, o7] [] σ1 := by
        intro d
        induction d using Nat.strongRecOn with
        | ind d ih =>
          intro x td σ1 o6 o7 hd hlen htd hro hfin hx hax hs hst f1
          match td, hd, hlen, htd, hro, hfin, hst with
          | [], hd, hlen, htd, hro, hfin, hst =>
            have hfin : x = (Sf, [ef], (lf T f).length) := hfin
            subst hfin
            have e63 : σ1.1 63 0 0 = ef := svi_top (t := []) hs
            refine hG 30 [71] _ _ _ _ ?_
            refine And.intro (fun _ => And.intro (show (0 : Int) ≤ 0 ∧ (0 : Int) < (200 : Nat) by omega) (And.intro rfl ⟨c, Sf, rfl, hc, hx, by omega, ?_, fun σ2 v2 f2 => ?_⟩)) (fun z => ?_)
            · show 0 ≤ σ1.1 63 0 0 ∧ σ1.1 63 0 0 < 100
              rw [e63]
              exact ⟨ef0, ef1⟩
            · have v2 : my_v (s_nm Sf (σ1.1 63 0 0)) c σ2 := v2
              rw [e63, ← eA] at v2
              exact hpo S0 σ2 v2 (sn_fr_t f1 (cpf f2))
            · have z : (0 : Int) < ((([] : List Nat).length : Nat) : Int) := z
              rw [List.length_nil] at z
              omega
          | e :: td, hd, hlen, htd, hro, hfin, hst =>
            obtain ⟨S, st, a⟩ := x
            obtain ⟨p, hp⟩ : ∃ p, e / 2 = p := ⟨_, rfl⟩
            have p9 : p < T.2 := by rw [← hp]; exact htd e List.mem_cons_self
            obtain ⟨hm1, hA1, hg1⟩ := keep σ1 f1
            obtain ⟨s0, s1, s2⟩ := hm1.1 p p9
            have ip : (0 : Int) ≤ (p : Int) ∧ (p : Int) < (80 : Nat) := by omega
            have etop : σ1.1 45 0 td.length = (e : Int) := by
              have := svi_top (t := td.map (fun (t : Nat) => (t : Int))) hst
              rw [List.length_map] at this
              exact this
            have hst' : svi (σ1.1 45 0) (td.map (fun (t : Nat) => (t : Int))) := svi_pop hst
            have htd' : ∀ y ∈ td, y / 2 < T.2 := fun y hy => htd y (List.mem_cons_of_mem _ hy)
            have tl := fla_len T (e :: td)
            rw [List.length_cons] at tl
            have t15 : td.length + 1 ≤ 15 := by omega
            rw [fla_c, hp] at hro hfin hlen
            have hx : my_v S c σ1 := hx
            have hs : svi (σ1.1 63 0) st := hs
            have hd : (if e % 2 = 0 then 2 * (pp T (e / 2)).length else 1) + nu T td = d := hd
            rw [hp] at hd
            have in0 : (0 : Int) ≤ (td.length : Int) ∧ (td.length : Int) < (100 : Nat) := by omega
            have at89 : G 89 [some (.inr (.inr (40, 0))), some (.inl (c : Int)), some (.inl (f : Int)), some (.inl (td.length : Int)), some (.inl (st.length : Int)), some (.inl (a : Int)), some (.inl (p : Int)), o7] [] σ1 := by
              refine hG 90 [71] _ _ _ _ ?_
              refine And.intro ip (And.intro (fun k => ?_) (fun k => ?_))
              · -- an atom
                have k : σ1.1 41 0 p = 0 := k
                rw [s0] at k
                have e1 : (if e % 2 = 0 then pp T p else [p]) = [p] := by rw [pp_a k, ite_self]
                rw [e1] at hro hfin hlen
                have lt : nu T td < d := by
                  have : 1 ≤ (if e % 2 = 0 then 2 * (pp T p).length else 1) := by
                    have := pp_pos T p
                    split <;> omega
                  omega
                obtain ⟨⟨-, pa, -⟩, hro⟩ := hro
                obtain ⟨pa1, pa2⟩ := pa k
                have pa1 : a < (lf T f).length := pa1
                have pa2 : st.length < (lf T f).length := pa2
                have ej : js T g (S, st, a) p = (S, ae g a :: st, a + 1) := if_pos k
                rw [List.cons_append, List.nil_append, List.foldl_cons, ej] at hfin
                have hro : rok T (lf T f).length g (js T g (S, st, a) p) (fla T td) := hro
                rw [ej] at hro
                rw [List.cons_append, List.nil_append, List.length_cons] at hlen
                have im : (0 : Int) ≤ (st.length : Int) ∧ (st.length : Int) < (200 : Nat) := by omega
                obtain ⟨r, r1, r2, r3, r4⟩ := hmat.1 a pa1
                have done : ∀ v : Int, v = ae g a → (0 ≤ (st.length : Int) ∧ (st.length : Int) < (200 : Nat)) ∧ sn_R ((st.length : Int) + 1) ∧ sn_R ((a : Int) + 1) ∧ G 71 [some (.inr (.inr (40, 0))), some (.inl (c : Int)), some (.inl (f : Int)), some (.inl (td.length : Int)), some (.inl ((st.length : Int) + 1)), some (.inl ((a : Int) + 1)), some (.inl (p : Int)), o7] [] (sn_u σ1.1 63 0 ((st.length : Int)).toNat v, σ1.2) := by
                  intro v hv
                  refine ⟨im, by unfold sn_R; omega, by unfold sn_R; omega, ?_⟩
                  refine ih (nu T td) lt (S, ae g a :: st, a + 1) td _ _ _ rfl (by omega) htd' hro hfin (myk 63 _ _ (Or.inr rfl) hx) hax (svi_push hs (fun j hj => ?_) ?_) (fun j X hj => ?_) (sn_fr_u f1 (Or.inr (Or.inr rfl)) _)
                  · show sn_u σ1.1 63 0 ((st.length : Int)).toNat v 63 0 j = _
                    rw [sn_u_at, if_neg (by omega)]
                  · show sn_u σ1.1 63 0 ((st.length : Int)).toNat v 63 0 st.length = _
                    rw [sn_u_at, if_pos (by omega)]
                    exact hv
                  · show sn_u σ1.1 63 0 ((st.length : Int)).toNat v 45 0 j = X
                    rw [sn_u_n (by omega)]
                    exact hst' j X hj
                refine And.intro rfl ⟨c, a, (lf T f).length, g, rfl, hc, rfl, pa1, hn, hmat.1, hg1, fun z => ?_, fun z => ?_⟩
                · refine done _ ?_
                  obtain ⟨q1, q2, q3⟩ := hax a pa1 z
                  have b60 := okA.1.1
                  have hb := hx.1 1 (ox g a) (by omega) (by have := ox_le g a; omega)
                  have hb : σ1.1 50 0 (60 * c + ox g a) = S.1 1 (ox g a) := hb
                  rw [hb]
                  unfold ae
                  rw [if_pos z]
                  exact q1
                · refine done _ ?_
                  obtain ⟨q1, q2, q3⟩ := hax r r2 (by omega)
                  have er : (g a).toNat = r := by rw [r1]; rfl
                  rw [er]
                  have hb := hx.1 2 (ox g r) (by omega) (by have := ox_le g r; omega)
                  have hb : σ1.1 51 0 (60 * c + ox g r) = S.1 2 (ox g r) := hb
                  rw [hb]
                  unfold ae
                  rw [if_neg z, er]
                  exact q2
              · have k : ¬ σ1.1 41 0 p = 0 := k
                rw [s0] at k
                have tm : (σ1.1 45 0 td.length).tmod 2 = ((e % 2 : Nat) : Int) := by rw [etop, Int.tmod_eq_emod_of_nonneg (by omega)]; omega
                refine And.intro in0 (And.intro (by decide) (And.intro (fun z => ?_) (fun z => ?_)))
                · -- its parts come first
                  have z : (σ1.1 45 0 td.length).tmod 2 = 0 := z
                  rw [tm] at z
                  have e0 : e % 2 = 0 := by omega
                  rw [if_pos e0] at hro hfin hlen hd
                  obtain ⟨-, l, r⟩ := tb_lr hT p9 k
                  have pj := pp_j hT p9 k
                  have l1 := pp_pos T (T.1 1 p).toNat
                  have r1 := pp_pos T (T.1 2 p).toNat
                  have efl : fla T (2 * (T.1 1 p).toNat :: 2 * (T.1 2 p).toNat :: (2 * p + 1) :: td) = pp T p ++ fla T td := by
                    rw [fla_c, fla_c, fla_c, if_pos (by omega), if_pos (by omega), if_neg (by omega), pj, show 2 * (T.1 1 p).toNat / 2 = (T.1 1 p).toNat by omega, show 2 * (T.1 2 p).toNat / 2 = (T.1 2 p).toNat by omega, show (2 * p + 1) / 2 = p by omega, List.append_assoc, List.append_assoc]
                  have enu : nu T (2 * (T.1 1 p).toNat :: 2 * (T.1 2 p).toNat :: (2 * p + 1) :: td) < d := by
                    show (if 2 * (T.1 1 p).toNat % 2 = 0 then 2 * (pp T (2 * (T.1 1 p).toNat / 2)).length else 1) + ((if 2 * (T.1 2 p).toNat % 2 = 0 then 2 * (pp T (2 * (T.1 2 p).toNat / 2)).length else 1) + ((if (2 * p + 1) % 2 = 0 then 2 * (pp T ((2 * p + 1) / 2)).length else 1) + nu T td)) < d
                    rw [if_pos (by omega), if_pos (by omega), if_neg (by omega), show 2 * (T.1 1 p).toNat / 2 = (T.1 1 p).toNat by omega, show 2 * (T.1 2 p).toNat / 2 = (T.1 2 p).toNat by omega]
                    rw [pj, List.length_append, List.length_append, List.length_singleton] at hd
                    omega
                  have in1 : (0 : Int) ≤ (td.length : Int) + 1 ∧ (td.length : Int) + 1 < (100 : Nat) := by omega
                  have in2 : (0 : Int) ≤ (td.length : Int) + 2 ∧ (td.length : Int) + 2 < (100 : Nat) := by omega
                  have rp : sn_R ((2 : Int) * (p : Int)) := by unfold sn_R; omega
                  have x2 : σ1.1 43 0 p = ((T.1 2 p).toNat : Int) := s2.trans r.2.2
                  have x1 : σ1.1 42 0 p = ((T.1 1 p).toNat : Int) := s1.trans l.2.2
                  refine And.intro rp (And.intro (by unfold sn_R; omega) (And.intro in0 (And.intro (by unfold sn_R; omega) (And.intro ip (And.intro ?_ (And.intro in1 (And.intro (by unfold sn_R; omega) (And.intro ip (And.intro ?_ (And.intro in2 (And.intro (by unfold sn_R; omega) ?_)))))))))))
                  · show sn_R ((2 : Int) * σ1.1 43 0 p)
                    rw [x2]
                    unfold sn_R
                    omega
                  · show sn_R ((2 : Int) * σ1.1 42 0 p)
                    rw [x1]
                    unfold sn_R
                    omega
                  · have t0 : ((td.length : Int)).toNat = td.length := rfl
                    have t1 : ((td.length : Int) + 1).toNat = td.length + 1 := by omega
                    have t2 : ((td.length : Int) + 2).toNat = td.length + 2 := by omega
                    have key := ih _ enu (S, st, a) (2 * (T.1 1 p).toNat :: 2 * (T.1 2 p).toNat :: (2 * p + 1) :: td) (sn_u (sn_u (sn_u σ1.1 45 0 td.length ((2 * p + 1 : Nat) : Int)) 45 0 (td.length + 1) ((2 * (T.1 2 p).toNat : Nat) : Int)) 45 0 (td.length + 2) ((2 * (T.1 1 p).toNat : Nat) : Int), σ1.2) (some (.inl (p : Int))) o7 rfl (by rw [efl]; exact hlen) (fun y hy => ?_) (by rw [efl]; exact hro) (by rw [efl]; exact hfin) (myk 45 _ _ (Or.inl rfl) (myk 45 _ _ (Or.inl rfl) (myk 45 _ _ (Or.inl rfl) hx))) hax (fun j X hj => ?_) ?_ (sn_fr_u (σ' := (sn_u (sn_u σ1.1 45 0 td.length ((2 * p + 1 : Nat) : Int)) 45 0 (td.length + 1) ((2 * (T.1 2 p).toNat : Nat) : Int), σ1.2)) (sn_fr_u (σ' := (sn_u σ1.1 45 0 td.length ((2 * p + 1 : Nat) : Int), σ1.2)) (sn_fr_u f1 (Or.inr (Or.inl rfl)) _) (Or.inr (Or.inl rfl)) _) (Or.inr (Or.inl rfl)) _)
                    · have e3 : ((2 * (T.1 1 p).toNat :: 2 * (T.1 2 p).toNat :: (2 * p + 1) :: td).length : Int) = (td.length : Int) + 3 := by simp only [List.length_cons]; omega
                      rw [e3] at key
                      show G 71 [some (.inr (.inr (40, 0))), some (.inl (c : Int)), some (.inl (f : Int)), some (.inl ((td.length : Int) + 3)), some (.inl (st.length : Int)), some (.inl (a : Int)), some (.inl (p : Int)), o7] [] (sn_u (sn_u (sn_u σ1.1 45 0 td.length ((2 : Int) * (p : Int) + 1)) 45 0 ((td.length : Int) + 1).toNat ((2 : Int) * (sn_u σ1.1 45 0 td.length ((2 : Int) * (p : Int) + 1)) 43 0 p)) 45 0 ((td.length : Int) + 2).toNat ((2 : Int) * (sn_u (sn_u σ1.1 45 0 td.length ((2 : Int) * (p : Int) + 1)) 45 0 ((td.length : Int) + 1).toNat ((2 : Int) * (sn_u σ1.1 45 0 td.length ((2 : Int) * (p : Int) + 1)) 43 0 p)) 42 0 p), σ1.2)
                      rw [t1, t2, sn_u_n (show ¬ (42 = 45 ∧ 0 = 0 ∧ p = td.length + 1) by omega), sn_u_n (show ¬ (42 = 45 ∧ 0 = 0 ∧ p = td.length) by omega), sn_u_n (show ¬ (43 = 45 ∧ 0 = 0 ∧ p = td.length) by omega), x1, x2]
                      exact key
                    · rcases List.mem_cons.mp hy with rfl | hy
                      · omega
                      · rcases List.mem_cons.mp hy with rfl | hy
                        · omega
                        · rcases List.mem_cons.mp hy with rfl | hy
                          · omega
                          · exact htd' y hy
                    · show sn_u (sn_u (sn_u σ1.1 45 0 td.length ((2 * p + 1 : Nat) : Int)) 45 0 (td.length + 1) ((2 * (T.1 2 p).toNat : Nat) : Int)) 45 0 (td.length + 2) ((2 * (T.1 1 p).toNat : Nat) : Int) 63 0 j = X
                      rw [sn_u_n (by omega), sn_u_n (by omega), sn_u_n (by omega)]
                      exact hs j X hj
                    · have a1 : svi ((sn_u σ1.1 45 0 td.length ((2 * p + 1 : Nat) : Int)) 45 0) (((2 * p + 1 : Nat) : Int) :: td.map (fun (t : Nat) => (t : Int))) := by
                        refine svi_push hst' (fun j hj => ?_) ?_
                        · rw [List.length_map] at hj
                          rw [sn_u_at, if_neg (by omega)]
                        · rw [List.length_map, sn_u_at, if_pos rfl]
                      have a2 : svi ((sn_u (sn_u σ1.1 45 0 td.length ((2 * p + 1 : Nat) : Int)) 45 0 (td.length + 1) ((2 * (T.1 2 p).toNat : Nat) : Int)) 45 0) (((2 * (T.1 2 p).toNat : Nat) : Int) :: ((2 * p + 1 : Nat) : Int) :: td.map (fun (t : Nat) => (t : Int))) := by
                        refine svi_push a1 (fun j hj => ?_) ?_
                        · rw [List.length_cons, List.length_map] at hj
                          rw [sn_u_at, if_neg (by omega)]
                        · rw [List.length_cons, List.length_map, sn_u_at, if_pos rfl]
                      refine svi_push a2 (fun j hj => ?_) ?_
                      · rw [List.length_map, List.length_cons, List.length_cons] at hj
                        show sn_u (sn_u (sn_u σ1.1 45 0 td.length ((2 * p + 1 : Nat) : Int)) 45 0 (td.length + 1) ((2 * (T.1 2 p).toNat : Nat) : Int)) 45 0 (td.length + 2) ((2 * (T.1 1 p).toNat : Nat) : Int) 45 0 j = _
                        rw [sn_u_at, if_neg (by omega)]
                      · rw [List.length_map, List.length_cons, List.length_cons]
                        show sn_u (sn_u (sn_u σ1.1 45 0 td.length ((2 * p + 1 : Nat) : Int)) 45 0 (td.length + 1) ((2 * (T.1 2 p).toNat : Nat) : Int)) 45 0 (td.length + 2) ((2 * (T.1 1 p).toNat : Nat) : Int) 45 0 (td.length + 2) = _
                        rw [sn_u_at, if_pos rfl]
                · -- the join
                  have z : ¬ (σ1.1 45 0 td.length).tmod 2 = 0 := z
                  rw [tm] at z
                  have e0 : ¬ e % 2 = 0 := fun y => z (by omega)
                  rw [if_neg e0] at hro hfin hlen hd
                  obtain ⟨⟨-, -, pj⟩, hro⟩ := hro
                  obtain ⟨k12, q2, q8, bl, br, b60, b100⟩ := pj k
                  match st, q2, q8, bl, br, hs, hro, hfin with
                  | [], q2, _, _, _, _, _, _ => exact absurd q2 (by show ¬ 2 ≤ 0; omega)
                  | [_], q2, _, _, _, _, _, _ => exact absurd q2 (by show ¬ 2 ≤ 1; omega)
                  | er :: el :: st, q2, q8, bl, br, hs, hro, hfin =>
                  have q8 : st.length + 2 ≤ (lf T f).length := q8
                  have bl : 0 ≤ el ∧ el < 100 := bl
                  have br : 0 ≤ er ∧ er < 100 := br
                  have b60 : S.2.1 < 60 := b60
                  have b100 : S.2.2.1 + 1 ≤ 100 := b100
                  have ej : js T g (S, er :: el :: st, a) p = (s_jn S (T.1 0 p) el er (p : Int), (S.2.2.1 : Int) :: st, a) := if_neg k
                  rw [List.cons_append, List.nil_append, List.foldl_cons, ej] at hfin
                  have hro : rok T (lf T f).length g (js T g (S, er :: el :: st, a) p) (fla T td) := hro
                  rw [ej] at hro
                  rw [List.cons_append, List.nil_append, List.length_cons] at hlen
                  have xr : σ1.1 63 0 (st.length + 1) = er := svi_top (t := el :: st) hs
                  have hs1 : svi (σ1.1 63 0) (el :: st) := svi_pop hs
                  have xl : σ1.1 63 0 st.length = el := svi_top hs1
                  have hs2 : svi (σ1.1 63 0) st := svi_pop hs1
                  have c2 : (((er :: el :: st).length : Nat) : Int) - 2 = (st.length : Int) := by simp only [List.length_cons]; omega
                  have c1 : (((er :: el :: st).length : Nat) : Int) - 1 = (st.length : Int) + 1 := by simp only [List.length_cons]; omega
                  have t1 : ((st.length : Int) + 1).toNat = st.length + 1 := by omega
                  refine And.intro ip (And.intro (by unfold sn_R; rw [c2]; omega) (And.intro ?_ (And.intro (by unfold sn_R; rw [c1]; omega) (And.intro ?_ (And.intro rfl ⟨c, S, rfl, hc, hx, b60, b100, ?_, fun σ2 v2 f2 => ?_⟩)))))
                  · show 0 ≤ (((er :: el :: st).length : Nat) : Int) - 2 ∧ (((er :: el :: st).length : Nat) : Int) - 2 < (200 : Nat)
                    rw [c2]
                    omega
                  · show 0 ≤ (((er :: el :: st).length : Nat) : Int) - 1 ∧ (((er :: el :: st).length : Nat) : Int) - 1 < (200 : Nat)
                    rw [c1]
                    omega
                  · show ¬ σ1.1 41 0 p = 0 ∧ (0 ≤ σ1.1 63 0 ((((er :: el :: st).length : Nat) : Int) - 2).toNat ∧ σ1.1 63 0 ((((er :: el :: st).length : Nat) : Int) - 2).toNat < 100) ∧ 0 ≤ σ1.1 63 0 ((((er :: el :: st).length : Nat) : Int) - 1).toNat ∧ σ1.1 63 0 ((((er :: el :: st).length : Nat) : Int) - 1).toNat < 100
                    rw [c2, c1, t1, show ((st.length : Int)).toNat = st.length from rfl, xl, xr, s0]
                    exact ⟨k, bl, br⟩
                  · have v2 : my_v (s_jn S (σ1.1 41 0 p) (σ1.1 63 0 ((((er :: el :: st).length : Nat) : Int) - 2).toNat) (σ1.1 63 0 ((((er :: el :: st).length : Nat) : Int) - 1).toNat) (p : Int)) c σ2 := v2
                    rw [c2, c1, t1, show ((st.length : Int)).toNat = st.length from rfl, xl, xr, s0] at v2
                    have f2 : sn_fr (cp_P c) σ1 σ2 := f2
                    have f12 := sn_fr_t f1 (cpf f2)
                    have o63 : ∀ j, σ2.1 63 0 j = σ1.1 63 0 j := fun j => f2.2 63 0 j (fun q => by have := cp_46 q; omega)
                    have o45 : ∀ j, σ2.1 45 0 j = σ1.1 45 0 j := fun j => f2.2 45 0 j (fun q => by have := cp_46 q; omega)
                    have e52 : σ2.1 52 0 (60 * c + S.2.1) = (S.2.2.1 : Int) := by
                      have := v2.1 3 S.2.1 (by omega) (by omega)
                      have this : σ2.1 52 0 (60 * c + S.2.1) = (s_jn S (T.1 0 p) el er (p : Int)).1 3 S.2.1 := this
                      rw [this]
                      exact sn_up_at _ _ _
                    have c3 : (((er :: el :: st).length : Nat) : Int) - 1 - 1 = (st.length : Int) := by omega
                    have ra : sn_R ((60 : Int) * (c : Int) + (S.2.1 : Int)) := by unfold sn_R; omega
                    have ia : (0 : Int) ≤ (60 : Int) * (c : Int) + (S.2.1 : Int) ∧ (60 : Int) * (c : Int) + (S.2.1 : Int) < (240 : Nat) := by omega
                    have ta : ((60 : Int) * (c : Int) + (S.2.1 : Int)).toNat = 60 * c + S.2.1 := by omega
                    refine And.intro (by unfold sn_R; rw [c1]; omega) (And.intro (by unfold sn_R; rw [c3]; omega) (And.intro (by unfold sn_R; omega) (And.intro ra (And.intro ia (And.intro ?_ ?_)))))
                    · show 0 ≤ (((er :: el :: st).length : Nat) : Int) - 1 - 1 ∧ (((er :: el :: st).length : Nat) : Int) - 1 - 1 < (200 : Nat)
                      rw [c3]
                      omega
                    · have key := ih (nu T td) (by omega) (s_jn S (T.1 0 p) el er (p : Int), (S.2.2.1 : Int) :: st, a) td (sn_u σ2.1 63 0 st.length (S.2.2.1 : Int), σ2.2) (some (.inl (p : Int))) (some (.inl (S.2.1 : Int))) rfl (by omega) htd' hro hfin (myk 63 _ _ (Or.inr rfl) v2) (fun j h1 h2 => ?_) (svi_push hs2 (fun j hj => ?_) ?_) (fun j X hj => ?_) (sn_fr_u f12 (Or.inr (Or.inr rfl)) _)
                      · show G 71 [some (.inr (.inr (40, 0))), some (.inl (c : Int)), some (.inl (f : Int)), some (.inl (td.length : Int)), some (.inl ((((er :: el :: st).length : Nat) : Int) - 1)), some (.inl (a : Int)), some (.inl (p : Int)), some (.inl (S.2.1 : Int))] [] (sn_u σ2.1 63 0 ((((er :: el :: st).length : Nat) : Int) - 1 - 1).toNat (σ2.1 52 0 ((60 : Int) * (c : Int) + (S.2.1 : Int)).toNat), σ2.2)
                        rw [c3, c1, ta, e52]
                        exact key
                      · obtain ⟨y1, y2, y3⟩ := hax j h1 h2
                        have y3 : ox g j < S.2.1 := y3
                        refine ⟨?_, ?_, by show ox g j < S.2.1 + 1; omega⟩
                        · show sn_up (S.1 1) S.2.1 el (ox g j) = _
                          rw [sn_up_ne _ (by omega)]
                          exact y1
                        · show sn_up (S.1 2) S.2.1 er (ox g j) = _
                          rw [sn_up_ne _ (by omega)]
                          exact y2
                      · show sn_u σ2.1 63 0 st.length (S.2.2.1 : Int) 63 0 j = _
                        rw [sn_u_at, if_neg (by omega)]
                        exact o63 j
                      · show sn_u σ2.1 63 0 st.length (S.2.2.1 : Int) 63 0 st.length = _
                        rw [sn_u_at, if_pos rfl]
                      · show sn_u σ2.1 63 0 st.length (S.2.2.1 : Int) 45 0 j = X
                        rw [sn_u_n (by omega), o45]
                        exact hst' j X hj
            have e1 : ((td.length + 1 : Nat) : Int) - 1 = (td.length : Int) := by omega
            have tq : (σ1.1 45 0 ((td.length : Int)).toNat).tdiv 2 = (p : Int) := by
              rw [show ((td.length : Int)).toNat = td.length from rfl, etop, Int.tdiv_eq_ediv_of_nonneg (by omega)]
              omega
            refine hG 30 [89] _ _ _ _ ?_
            refine And.intro (fun z => ?_) (fun _ => And.intro (by unfold sn_R; rw [List.length_cons]; omega) (And.intro ?_ (And.intro (by decide) ?_)))
            · have z : (((e :: td).length : Nat) : Int) ≤ 0 := z
              rw [List.length_cons] at z
              omega
            · show 0 ≤ (((e :: td).length : Nat) : Int) - 1 ∧ (((e :: td).length : Nat) : Int) - 1 < (100 : Nat)
              rw [List.length_cons]
              omega
            · show G 89 [some (.inr (.inr (40, 0))), some (.inl (c : Int)), some (.inl (f : Int)), some (.inl (((td.length + 1 : Nat) : Int) - 1)), some (.inl (st.length : Int)), some (.inl (a : Int)), some (.inl ((σ1.1 45 0 (((td.length + 1 : Nat) : Int) - 1).toNat).tdiv 2)), o7] [] σ1
              rw [e1, tq]
              exact at89
      -- the axioms
      have one : ∀ (d k : Nat) (σ1 : sn_M), (lf T f).length - k = d → k ≤ (lf T f).length → my_v (axs (lf T f) g (s_0 S0) k) c σ1 → sn_fr (ly_P c) σ σ1 → G 7 [some (.inr (.inr (40, 0))), some (.inl (c : Int)), some (.inl (f : Int)), some (.inl (k : Int)), none, none, none, none] [] σ1 := by
        intro d
        induction d with
        | zero =>
          intro k σ1 hd hk hx f1
          have ek : k = (lf T f).length := by omega
          subst ek
          obtain ⟨-, hA1, -⟩ := keep σ1 f1
          have e24 := hA1.2
          refine hG 30 [71] _ _ _ _ ?_
          refine And.intro (fun z => ?_) (fun _ => And.intro (by unfold sn_R; omega) (And.intro (show (0 : Int) ≤ 0 ∧ (0 : Int) < (100 : Nat) by omega) ?_))
          · have z : ((lf T f).length : Int) < σ1.1 40 0 24 := z
            omega
          · have ef : fla T [2 * f] = pp T f := by
              rw [fla_c, if_pos (by omega), show 2 * f / 2 = f by omega]
              exact List.append_nil _
            refine two _ (axs (lf T f) g (s_0 S0) (lf T f).length, [], 0) [2 * f] _ _ _ rfl (by rw [ef]; exact Nat.le_refl _) (fun y hy => by rw [List.mem_singleton.mp hy]; omega) (by rw [ef]; exact ro) (by rw [ef]; exact fin) (myk 45 _ _ (Or.inl rfl) hx) (fun j h1 h2 => ?_) (fun j X h => by simp at h) ?_ (sn_fr_u f1 (Or.inr (Or.inl rfl)) _)
            · obtain ⟨-, y1, y2, -⟩ := axs_r (A := lf T f) (S := S0) (lf T f).length j h1 h2
              refine ⟨y1, y2, ?_⟩
              show ox g j < (axs (lf T f) g (s_0 S0) (lf T f).length).2.1
              rw [(axs_n (lf T f) g S0 (lf T f).length).1]
              exact ox_lt h1 h2
            · refine svi_push (g := fun _ => 0) (t := []) (fun j X h => by simp at h) (fun j hj => absurd hj (Nat.not_lt_zero j)) ?_
              show sn_u σ1.1 45 0 0 ((2 : Int) * (f : Int)) 45 0 0 = ((2 * f : Nat) : Int)
              rw [sn_u_s]
              omega
        | succ d ih =>
          intro k σ1 hd hk hx f1
          have k9 : k < (lf T f).length := by omega
          obtain ⟨-, hA1, hg1⟩ := keep σ1 f1
          have e24 := hA1.2
          have gk := hg1 k k9
          obtain ⟨r, r1, r2, r3, r4⟩ := hmat.1 k k9
          have ik : (0 : Int) ≤ (k : Int) ∧ (k : Int) < (8 : Nat) := by omega
          have ik2 : (0 : Int) ≤ (k : Int) ∧ (k : Int) < (16 : Nat) := by omega
          have igk : 0 ≤ σ1.1 62 0 k ∧ σ1.1 62 0 k < (16 : Nat) := by rw [gk, r1]; omega
          obtain ⟨m1, m2, m3⟩ := axs_n (lf T f) g S0 k
          have ol := ox_le g k
          have a1 := mlA_at hA1 k9
          have a2 := mlA_at hA1 r2
          refine hG 60 [7] _ _ _ _ ?_
          refine And.intro (fun _ => And.intro ik (And.intro (fun z => ?_) (fun z => ?_))) (fun z => ?_)
          · have z : σ1.1 62 0 k ≤ (k : Int) := z
            rw [gk] at z
            refine And.intro (by unfold sn_R; omega) (ih (k + 1) σ1 (by omega) (by omega) ?_ f1)
            rw [axs_s, if_neg (by omega)]
            exact hx
          · have z : (k : Int) < σ1.1 62 0 k := z
            rw [gk] at z
            refine And.intro ik2 (And.intro ik (And.intro igk (And.intro rfl ⟨c, axs (lf T f) g (s_0 S0) k, rfl, hc, hx, by omega, by omega, fun σ2 v2 f2 => ?_⟩)))
            have v2 : my_v (s_ax (axs (lf T f) g (s_0 S0) k) (σ1.1 61 0 k) (σ1.1 61 0 (σ1.1 62 0 k).toNat)) c σ2 := v2
            rw [gk, r1, show ((r : Int)).toNat = r from rfl, a1, a2] at v2
            refine And.intro (by unfold sn_R; omega) (ih (k + 1) σ2 (by omega) (by omega) ?_ (sn_fr_t f1 (cpf f2)))
            rw [axs_s, if_pos z, r1, show ((r : Int)).toNat = r from rfl]
            exact v2
          · have z : σ1.1 40 0 24 ≤ (k : Int) := z
            omega
      refine hG 20 [7] _ _ _ _ ?_
      refine fun G2 => And.intro ic (And.intro ic (And.intro ic ?_))
      refine one (lf T f).length 0 _ rfl (Nat.zero_le _) ⟨fun a l ha hl => ?_, fun a e h1 h2 he => ?_, ?_, ?_, ?_⟩ ⟨rfl, fun a b k hn => ?_⟩
      · show sn_u (sn_u (sn_u σ.1 46 0 c 0) 47 0 c 0) 48 0 c 0 (49 + a) 0 (60 * c + l) = if a < 4 then σ.1 (49 + a) 0 (60 * c + l) else _
        rw [if_pos ha, sn_u_n (by omega), sn_u_n (by omega), sn_u_n (by omega)]
      · show sn_u (sn_u (sn_u σ.1 46 0 c 0) 47 0 c 0) 48 0 c 0 (49 + a) 0 (100 * c + e) = if a < 4 then _ else σ.1 (49 + a) 0 (100 * c + e)
        rw [if_neg (by omega), sn_u_n (by omega), sn_u_n (by omega), sn_u_n (by omega)]
      · show sn_u (sn_u (sn_u σ.1 46 0 c 0) 47 0 c 0) 48 0 c 0 46 0 c = 0
        rw [sn_u_n (by omega), sn_u_n (by omega), sn_u_s]
      · show sn_u (sn_u (sn_u σ.1 46 0 c 0) 47 0 c 0) 48 0 c 0 47 0 c = 0
        rw [sn_u_n (by omega), sn_u_s]
      · show sn_u (sn_u (sn_u σ.1 46 0 c 0) 47 0 c 0) 48 0 c 0 48 0 c = 0
        rw [sn_u_s]
      · show sn_u (sn_u (sn_u σ.1 46 0 c 0) 47 0 c 0) 48 0 c 0 a b k = _
        rw [sn_u_n (fun z => hn (Or.inl (by rw [z.1, z.2.1, z.2.2]; exact cp_c (by omega)))), sn_u_n (fun z => hn (Or.inl (by rw [z.1, z.2.1, z.2.2]; exact cp_c (by omega)))), sn_u_n (fun z => hn (Or.inl (by rw [z.1, z.2.1, z.2.2]; exact cp_c (by omega))))]
    · exact h.elim
