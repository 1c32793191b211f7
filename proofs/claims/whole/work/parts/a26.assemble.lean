/-! The class: a linking is assembled. -/
def lsA (T : fT) (f : Nat) (σ : sn_M) : Prop := (∀ i g : Nat, (pp T f)[i]? = some g → σ.1 34 0 i = (g : Int)) ∧ (∀ i g : Nat, (lf T f)[i]? = some g → σ.1 35 0 i = (g : Int)) ∧ σ.1 33 0 9 = ((pp T f).length : Int) ∧ σ.1 33 0 10 = ((lf T f).length : Int)
def as_P (i a b _ : Nat) : Prop := a = 37 ∨ a = 38 ∨ ((9 ≤ a ∧ a ≤ 18) ∧ b = i)
/-- a stack of edges as it lies in a row -/
def svi (g : Nat → Int) (st : List Int) : Prop := ∀ (j : Nat) (X : Int), st.reverse[j]? = some X → g j = X
theorem svi_top {g : Nat → Int} {W : Int} {t : List Int} (h : svi g (W :: t)) : g t.length = W := by
  refine h t.length W ?_
  rw [List.reverse_cons, List.getElem?_append_right (by simp), List.length_reverse, Nat.sub_self]
  rfl
theorem svi_pop {g : Nat → Int} {W : Int} {t : List Int} (h : svi g (W :: t)) : svi g t := by
  intro j X hj
  refine h j X ?_
  have := (List.getElem?_eq_some_iff.mp hj).1
  rw [List.reverse_cons, List.getElem?_append_left this]
  exact hj
theorem svi_push {g g' : Nat → Int} {X : Int} {t : List Int} (h : svi g t) (h1 : ∀ j, j < t.length → g' j = g j) (h2 : g' t.length = X) : svi g' (X :: t) := by
  intro j Y hj
  have lt := (List.getElem?_eq_some_iff.mp hj).1
  rw [List.length_reverse, List.length_cons] at lt
  rw [List.reverse_cons] at hj
  by_cases z : j = t.length
  · subst z
    rw [List.getElem?_append_right (by simp), List.length_reverse, Nat.sub_self] at hj
    rw [h2]
    exact Option.some.inj hj
  · have lt2 : j < t.reverse.length := by rw [List.length_reverse]; omega
    rw [List.getElem?_append_left lt2] at hj
    rw [h1 j (by omega)]
    exact h j Y hj
theorem lsA_at {T : fT} {f : Nat} {σ : sn_M} (h : lsA T f σ) {k : Nat} (hk : k < (lf T f).length) : σ.1 35 0 k = ((lf T f).getD k 0 : Int) := h.2.1 k _ (getD_in hk).2
theorem lsA_fr {T : fT} {f : Nat} {σ σ' : sn_M} (h : lsA T f σ) (e : ∀ a c, a = 34 ∨ a = 35 ∨ (a = 33 ∧ (c = 9 ∨ c = 10)) → σ'.1 a 0 c = σ.1 a 0 c) : lsA T f σ' := ⟨fun i g hg => by rw [e 34 i (Or.inl rfl)]; exact h.1 i g hg, fun i g hg => by rw [e 35 i (Or.inr (Or.inl rfl))]; exact h.2.1 i g hg, by rw [e 33 9 (by omega)]; exact h.2.2.1, by rw [e 33 10 (by omega)]; exact h.2.2.2⟩
def sp_LS_assemble : sn_P := fun vs σ po => match vs with
  | [.inr (.inr q), .inr (.inr u), .inr (.inr t)] => q = (33, 0) ∧ u = (1, 0) ∧ t.1 = 9 ∧ ∃ (T : fT) (f : Nat) (g : Nat → Int), fo_v T σ ∧ fT_ok T ∧ T.2 ≤ 80 ∧ f < T.2 ∧ (lf T f).length ≤ 8 ∧ matT T (lf T f) g (lf T f).length ∧ lsA T f σ ∧ (∀ k, k < (lf T f).length → σ.1 36 0 k = g k) ∧ ∀ (S : sT) (σ' : sn_M), sx_v (s_X (asm T f g S)) t.2 σ' → sn_fr (as_P t.2) σ σ' → po none σ'
  | _ => False
def ca_LS_assemble : List (Nat × Nat × Nat × sn_P) := [(117, 1, 5, sp_ST_empty), (120, 3, 5, sp_ST_addAxiom), (126, 5, 5, sp_ST_addJoin), (133, 2, 5, sp_ST_nameEdge)]
theorem co_LS_assemble : ∀ x n ci s', sn_lk ca_LS_assemble x = some (n, ci, s') → sn_CO "SwitchedNets$LinkingSearch" sn_ws 2 x n ci s' := sn_co_of (List.forall_mem_cons.mpr ⟨sn_CO_V ("SwitchedNets$Structure", T_ST, 15) ct_ST_empty (by decide) (by decide) (sn_gV ml_LS_117 mi_ST_empty ms_ST_empty mz_ST mc_ST_empty) (by decide) rfl rfl ⟨nh_ST.1, nh_ST.2, pn_ST_empty⟩, List.forall_mem_cons.mpr ⟨sn_CO_V ("SwitchedNets$Structure", T_ST, 15) ct_ST_addAxiom (by decide) (by decide) (sn_gV ml_LS_120 mi_ST_addAxiom ms_ST_addAxiom mz_ST mc_ST_addAxiom) (by decide) rfl rfl ⟨nh_ST.1, nh_ST.2, pn_ST_addAxiom⟩, List.forall_mem_cons.mpr ⟨sn_CO_V ("SwitchedNets$Structure", T_ST, 15) ct_ST_addJoin (by decide) (by decide) (sn_gV ml_LS_126 mi_ST_addJoin ms_ST_addJoin mz_ST mc_ST_addJoin) (by decide) rfl rfl ⟨nh_ST.1, nh_ST.2, pn_ST_addJoin⟩, List.forall_mem_cons.mpr ⟨sn_CO_V ("SwitchedNets$Structure", T_ST, 15) ct_ST_nameEdge (by decide) (by decide) (sn_gV ml_LS_133 mi_ST_nameEdge ms_ST_nameEdge mz_ST mc_ST_nameEdge) (by decide) rfl rfl ⟨nh_ST.1, nh_ST.2, pn_ST_nameEdge⟩, fun _ h => absurd h List.not_mem_nil⟩⟩⟩⟩)
set_option maxHeartbeats 8000000 in
theorem ct_LS_assemble : sn_CT y_LS_assemble ws_LS_assemble 2 sp_LS_assemble := by
  refine sn_CT_of (pr := pr_LS_assemble) (fi := (sn_lk ft_LS)) (lc := sn_no) (ca := sn_lk ca_LS_assemble) pl_LS ?_ pk_LS_assemble FI_LS (sn_no_ok _) co_LS_assemble ?_
  · intro vs σ post h
    unfold sp_LS_assemble at h
    split at h
    · exact Nat.le_of_ble_eq_true rfl
    · exact h.elim
  · intro vs σ post h hvs hR
    unfold sp_LS_assemble at h
    split at h
    · next q u t =>
      obtain ⟨t1, i⟩ := t
      obtain ⟨rfl, rfl, ht, T, f, g, hfo, hT, h80, hf, hn, hm, hA, hg, hpo⟩ := h
      have ht : t1 = 9 := ht
      subst ht
      intro G hG
      have hpo : ∀ (S : sT) (σ' : sn_M), sx_v (s_X (asm T f g S)) i σ' → sn_fr (as_P i) σ σ' → post none σ' := hpo
      have n1 := lf_pos hT f hf
      have plen := pp_len hT f hf
      -- what stays
      have keep : ∀ σ1, sn_fr (as_P i) σ σ1 → fo_v T σ1 ∧ lsA T f σ1 ∧ ∀ k, k < (lf T f).length → σ1.1 36 0 k = g k := fun σ1 f1 => ⟨fo_v_fr hfo f1 (fun a c h1 h2 z => by unfold as_P at z; omega), lsA_fr hA (fun a c h1 => f1.2 a 0 c (fun z => by unfold as_P at z; omega)), fun k hk => by rw [f1.2 36 0 k (fun z => by unfold as_P at z; omega)]; exact hg k hk⟩
      have sxf : ∀ {σ1 σ2 : sn_M}, sx_f i σ1 σ2 → sn_fr (as_P i) σ1 σ2 := fun f => sn_fr_w f (fun a b c z => Or.inr (Or.inr z))
      have p0 : (0 : Int) ≤ 0 ∧ (0 : Int) < (8 : Nat) := by omega
      let X0 : sX := (fun a => σ.1 (10 + a) i, fun j => σ.1 9 i j)
      let S0 : sT := (X0.1, 0, 0, 0)
      obtain ⟨Sf, ef, fin, eA, ro, okA, c0, ef0, ef1⟩ := asm_ok hT hf (g := g) S0 hn hm
      obtain ⟨ax1, -, -, -⟩ := axs_ok (S := S0) hn hm (lf T f).length (Nat.le_refl _)
      -- the parts
      have two : ∀ (d n : Nat) (x : jT) (L : List Nat) (σ1 : sn_M) (o6 o7 : Option sn_V), L.length = d → n + L.length = (pp T f).length → (∀ j y, L[j]? = some y → (pp T f)[n + j]? = some y) → rok T (lf T f).length g x L → L.foldl (js T g) x = (Sf, [ef], (lf T f).length) → sx_v (s_X x.1) i σ1 → svi (σ1.1 38 0) x.2.1 → (∀ j, j < (lf T f).length → σ1.1 37 0 j = ae g j) → sn_fr (as_P i) σ σ1 → G 92 [some (.inr (.inr (33, 0))), some (.inr (.inr (1, 0))), some (.inr (.inr (9, i))), some (.inl (x.2.2 : Int)), some (.inl (x.2.1.length : Int)), some (.inl (n : Int)), o6, o7] [] σ1 := by
        intro d
        induction d with
        | zero =>
          intro n x L σ1 o6 o7 hd hnl hL hro hfin hx hs hae f1
          have eL : L = [] := List.eq_nil_of_length_eq_zero hd
          subst eL
          have hfin : x = (Sf, [ef], (lf T f).length) := hfin
          subst hfin
          obtain ⟨-, hA1, -⟩ := keep σ1 f1
          have e9 := hA1.2.2.1
          have e38 : σ1.1 38 0 0 = ef := svi_top (t := []) hs
          refine hG 30 [92] _ _ _ _ ?_
          refine And.intro (fun c => ?_) (fun _ => And.intro p0 (And.intro rfl ⟨s_X Sf, hx, ?_, ?_, fun σ2 v2 f2 => ?_⟩))
          · have c : (n : Int) < σ1.1 33 0 9 := c
            rw [e9, ← hnl] at c
            simp only [List.length_nil] at c
            omega
          · show 0 ≤ (Sf.2.2.2 : Int) ∧ (Sf.2.2.2 : Int) < 100
            omega
          · show 0 ≤ σ1.1 38 0 0 ∧ σ1.1 38 0 0 < 100
            rw [e38]
            exact ⟨ef0, ef1⟩
          · have v2 : sx_v (x_nE (s_X Sf) (σ1.1 38 0 0)) i σ2 := v2
            rw [e38] at v2
            refine hpo S0 σ2 ?_ (sn_fr_t f1 (sxf f2))
            rw [eA]
            exact sx_e v2 ⟨rfl, rfl, rfl, rfl, rfl, rfl, rfl, rfl, rfl⟩ ⟨rfl, rfl, rfl, rfl, rfl, rfl⟩
        | succ d ih =>
          intro n x L σ1 o6 o7 hd hnl hL hro hfin hx hs hae f1
          match L, hd, hnl, hL, hro, hfin with
          | [], hd, _, _, _, _ => exact absurd hd (by simp)
          | p :: L, hd, hnl, hL, hro, hfin =>
          obtain ⟨S, st, a⟩ := x
          obtain ⟨⟨p9, pa, pj⟩, hro⟩ := hro
          rw [List.foldl_cons] at hfin
          obtain ⟨hfo1, hA1, -⟩ := keep σ1 f1
          have e9 := hA1.2.2.1
          rw [List.length_cons] at hnl
          have qp : σ1.1 34 0 n = (p : Int) := hA1.1 n p (by have := hL 0 p rfl; rw [Nat.add_zero] at this; exact this)
          have hL' : ∀ j y, L[j]? = some y → (pp T f)[n + 1 + j]? = some y := fun j y hj => by
            have := hL (j + 1) y (by rw [List.getElem?_cons_succ]; exact hj)
            rw [show n + (j + 1) = n + 1 + j by omega] at this
            exact this
          have ip : (0 : Int) ≤ (p : Int) ∧ (p : Int) < (80 : Nat) := by omega
          have at110 : G 110 [some (.inr (.inr (33, 0))), some (.inr (.inr (1, 0))), some (.inr (.inr (9, i))), some (.inl (a : Int)), some (.inl (st.length : Int)), some (.inl (n : Int)), some (.inl (p : Int)), o7] [] σ1 := by
            have r0 : σ1.1 2 0 = T.1 0 := hfo1.1.1
            refine hG 60 [92] _ _ _ _ ?_
            refine And.intro ip (And.intro (fun k => ?_) (fun k => ?_))
            · have k : σ1.1 2 0 p = 0 := k
              rw [r0] at k
              obtain ⟨pa1, pa2⟩ := pa k
              have pa1 : a < (lf T f).length := pa1
              have pa2 : st.length < (lf T f).length := pa2
              have ej : js T g (S, st, a) p = (S, ae g a :: st, a + 1) := if_pos k
              rw [ej] at hro hfin
              have ea := hae a pa1
              refine And.intro (show (0 : Int) ≤ (a : Int) ∧ (a : Int) < (8 : Nat) by omega) (And.intro (show (0 : Int) ≤ (st.length : Int) ∧ (st.length : Int) < (8 : Nat) by omega) (And.intro (by unfold sn_R; omega) (And.intro (by unfold sn_R; omega) (And.intro (by unfold sn_R; omega) ?_))))
              refine ih (n + 1) (S, ae g a :: st, a + 1) L _ _ _ (Nat.succ.inj hd) (by omega) hL' hro hfin ⟨fun c hc => ?_, fun j h1 h2 => ?_⟩ (svi_push hs (fun j hj => ?_) ?_) (fun j hj => ?_) (sn_fr_u f1 (Or.inr (Or.inl rfl)) _)
              · show (sn_u σ1.1 38 0 ((st.length : Int)).toNat (σ1.1 37 0 a)) (10 + c) i = _
                rw [sn_u_rk (by omega)]
                exact hx.1 c hc
              · show (sn_u σ1.1 38 0 ((st.length : Int)).toNat (σ1.1 37 0 a)) 9 i j = _
                rw [sn_u_n (by omega)]
                exact hx.2 j h1 h2
              · show sn_u σ1.1 38 0 (st.length : Int).toNat (σ1.1 37 0 a) 38 0 j = _
                have hj : j < st.length := hj
                rw [sn_u_at, if_neg (by omega)]
              · show sn_u σ1.1 38 0 (st.length : Int).toNat (σ1.1 37 0 a) 38 0 st.length = _
                rw [sn_u_at, if_pos (by omega), ea]
              · show (sn_u σ1.1 38 0 ((st.length : Int)).toNat (σ1.1 37 0 a)) 37 0 j = _
                rw [sn_u_n (by omega)]
                exact hae j hj
            · have k : ¬ σ1.1 2 0 p = 0 := k
              rw [r0] at k
              obtain ⟨k12, s2, s8, bl, br, b60, b100⟩ := pj k
              match st, s2, s8, bl, br, hs, hro, hfin with
              | [], s2, _, _, _, _, _, _ => exact absurd s2 (by show ¬ 2 ≤ 0; omega)
              | [_], s2, _, _, _, _, _, _ => exact absurd s2 (by show ¬ 2 ≤ 1; omega)
              | er :: el :: st, s2, s8, bl, br, hs, hro, hfin =>
              have s8 : st.length + 2 ≤ (lf T f).length := s8
              have bl : 0 ≤ el ∧ el < 100 := bl
              have br : 0 ≤ er ∧ er < 100 := br
              have b60 : S.2.1 < 60 := b60
              have b100 : S.2.2.1 + 1 ≤ 100 := b100
              have ej : js T g (S, er :: el :: st, a) p = (s_jn S (T.1 0 p) el er (p : Int), (S.2.2.1 : Int) :: st, a) := if_neg k
              rw [ej] at hro hfin
              have xr : σ1.1 38 0 (st.length + 1) = er := svi_top (t := el :: st) hs
              have hs1 : svi (σ1.1 38 0) (el :: st) := svi_pop hs
              have xl : σ1.1 38 0 st.length = el := svi_top hs1
              have hs2 : svi (σ1.1 38 0) st := svi_pop hs1
              have c1 : (((er :: el :: st).length : Nat) : Int) + -1 = (st.length : Int) + 1 := by simp only [List.length_cons]; omega
              have i1 : (((er :: el :: st).length : Nat) : Int) + -1 - 1 = (st.length : Int) := by omega
              refine And.intro (by unfold sn_R; rw [c1]; omega) ?_
              refine And.intro ip (And.intro (by unfold sn_R; rw [i1]; omega) (And.intro ?_ (And.intro ?_ (And.intro rfl (And.intro ?_ (And.intro ?_ (And.intro ?_ ⟨S, hx, b60, b100, fun σ2 v2 f2 => ?_⟩)))))))
              · show 0 ≤ (((er :: el :: st).length : Nat) : Int) + -1 - 1 ∧ (((er :: el :: st).length : Nat) : Int) + -1 - 1 < (8 : Nat)
                rw [i1]
                omega
              · show 0 ≤ (((er :: el :: st).length : Nat) : Int) + -1 ∧ (((er :: el :: st).length : Nat) : Int) + -1 < (8 : Nat)
                rw [c1]
                omega
              · show σ1.1 2 0 p = 1 ∨ σ1.1 2 0 p = 2
                rw [r0]
                exact k12
              · show 0 ≤ σ1.1 38 0 ((((er :: el :: st).length : Nat) : Int) + -1 - 1).toNat ∧ σ1.1 38 0 ((((er :: el :: st).length : Nat) : Int) + -1 - 1).toNat < 100
                rw [i1, show ((st.length : Int)).toNat = st.length from rfl, xl]
                exact bl
              · show 0 ≤ σ1.1 38 0 ((((er :: el :: st).length : Nat) : Int) + -1).toNat ∧ σ1.1 38 0 ((((er :: el :: st).length : Nat) : Int) + -1).toNat < 100
                rw [c1, show ((st.length : Int) + 1).toNat = st.length + 1 by omega, xr]
                exact br
              · have v2 : sx_v (s_X (s_jn S (σ1.1 2 0 p) (σ1.1 38 0 ((((er :: el :: st).length : Nat) : Int) + -1 - 1).toNat) (σ1.1 38 0 ((((er :: el :: st).length : Nat) : Int) + -1).toNat) (p : Int))) i σ2 := v2
                rw [r0, i1, c1, show ((st.length : Int)).toNat = st.length from rfl, xl, show ((st.length : Int) + 1).toNat = st.length + 1 by omega, xr] at v2
                have f2 : sx_f i σ1 σ2 := f2
                have e13 : σ2.1 13 i S.2.1 = (S.2.2.1 : Int) := by
                  have : σ2.1 13 i = (s_jn S (T.1 0 p) el er (p : Int)).1 3 := v2.1 3 (by omega)
                  rw [this]
                  exact sn_up_at _ _ _
                have f12 := sn_fr_t f1 (sxf f2)
                have o38 : ∀ j, σ2.1 38 0 j = σ1.1 38 0 j := fun j => f2.2 38 0 j (by omega)
                refine And.intro (by unfold sn_R; rw [i1]; omega) (And.intro (show (0 : Int) ≤ (S.2.1 : Int) ∧ (S.2.1 : Int) < (60 : Nat) by omega) (And.intro ?_ (And.intro (by unfold sn_R; omega) ?_)))
                · show 0 ≤ (((er :: el :: st).length : Nat) : Int) + -1 - 1 ∧ (((er :: el :: st).length : Nat) : Int) + -1 - 1 < (8 : Nat)
                  rw [i1]
                  omega
                · have key := ih (n + 1) (s_jn S (T.1 0 p) el er (p : Int), (S.2.2.1 : Int) :: st, a) L (sn_u σ2.1 38 0 st.length (S.2.2.1 : Int), σ2.2) (some (.inl (p : Int))) (some (.inl (S.2.1 : Int))) (Nat.succ.inj hd) (by omega) hL' hro hfin ⟨fun c hc => ?_, fun j h1 h2 => ?_⟩ (svi_push hs2 (fun j hj => ?_) ?_) (fun j hj => ?_) (sn_fr_u f12 (Or.inr (Or.inl rfl)) _)
                  · show G 92 [some (.inr (.inr (33, 0))), some (.inr (.inr (1, 0))), some (.inr (.inr (9, i))), some (.inl (a : Int)), some (.inl ((((er :: el :: st).length : Nat) : Int) + -1)), some (.inl ((n : Int) + 1)), some (.inl (p : Int)), some (.inl (S.2.1 : Int))] [] (sn_u σ2.1 38 0 ((((er :: el :: st).length : Nat) : Int) + -1 - 1).toNat (σ2.1 13 i S.2.1), σ2.2)
                    rw [i1, c1, show ((st.length : Int)).toNat = st.length from rfl, e13]
                    exact key
                  · show (sn_u σ2.1 38 0 st.length (S.2.2.1 : Int)) (10 + c) i = _
                    rw [sn_u_rk (by omega)]
                    exact v2.1 c hc
                  · show (sn_u σ2.1 38 0 st.length (S.2.2.1 : Int)) 9 i j = _
                    rw [sn_u_n (by omega)]
                    exact v2.2 j h1 h2
                  · show sn_u σ2.1 38 0 st.length (S.2.2.1 : Int) 38 0 j = _
                    rw [sn_u_at, if_neg (by omega)]
                    exact o38 j
                  · show sn_u σ2.1 38 0 st.length (S.2.2.1 : Int) 38 0 st.length = _
                    rw [sn_u_at, if_pos rfl]
                  · show (sn_u σ2.1 38 0 st.length (S.2.2.1 : Int)) 37 0 j = _
                    rw [sn_u_n (by omega), f2.2 37 0 j (by omega)]
                    exact hae j hj
          refine hG 20 [110] _ _ _ _ ?_
          refine And.intro (fun _ => And.intro (show (0 : Int) ≤ (n : Int) ∧ (n : Int) < (16 : Nat) by omega) ?_) (fun c => ?_)
          · show G 110 [some (.inr (.inr (33, 0))), some (.inr (.inr (1, 0))), some (.inr (.inr (9, i))), some (.inl (a : Int)), some (.inl (st.length : Int)), some (.inl (n : Int)), some (.inl (σ1.1 34 0 n)), o7] [] σ1
            rw [qp]
            exact at110
          · have c : σ1.1 33 0 9 ≤ (n : Int) := c
            rw [e9] at c
            omega
      -- the axioms
      have one : ∀ (d k : Nat) (σ1 : sn_M) (o4 : Option sn_V), (lf T f).length - k = d → k ≤ (lf T f).length → sx_v (s_X (axs (lf T f) g (s_0 S0) k)) i σ1 → (∀ j, j < k → (j : Int) < g j → σ1.1 37 0 j = ae g j ∧ σ1.1 37 0 (g j).toNat = ae g (g j).toNat) → sn_fr (as_P i) σ σ1 → G 6 [some (.inr (.inr (33, 0))), some (.inr (.inr (1, 0))), some (.inr (.inr (9, i))), some (.inl (k : Int)), o4, none, none, none] [] σ1 := by
        intro d
        induction d with
        | zero =>
          intro k σ1 o4 hd hk hx hae f1
          have ek : k = (lf T f).length := by omega
          subst ek
          obtain ⟨-, hA1, -⟩ := keep σ1 f1
          have e10 := hA1.2.2.2
          refine hG 30 [92] _ _ _ _ ?_
          refine And.intro (fun c => ?_) (fun _ => ?_)
          · have c : ((lf T f).length : Int) < σ1.1 33 0 10 := c
            omega
          · refine two (pp T f).length 0 (axs (lf T f) g (s_0 S0) (lf T f).length, [], 0) (pp T f) σ1 _ _ rfl (by omega) (fun j y hj => by rw [Nat.zero_add]; exact hj) ro fin hx (fun j X h => by simp at h) (fun j hj => ?_) f1
            obtain ⟨r, r1, r2, r3, r4⟩ := hm.1 j hj
            by_cases c : (j : Int) < g j
            · exact (hae j hj c).1
            · have := (hae r r2 (by omega)).2
              rw [r4] at this
              exact this
        | succ d ih =>
          intro k σ1 o4 hd hk hx hae f1
          have k9 : k < (lf T f).length := by omega
          obtain ⟨-, hA1, hg1⟩ := keep σ1 f1
          have e10 := hA1.2.2.2
          have gk := hg1 k k9
          obtain ⟨r, r1, r2, r3, r4⟩ := hm.1 k k9
          have ik : (0 : Int) ≤ (k : Int) ∧ (k : Int) < (8 : Nat) := by omega
          have igk : 0 ≤ σ1.1 36 0 k ∧ σ1.1 36 0 k < (8 : Nat) := by rw [gk, r1]; omega
          obtain ⟨m1, m2, m3⟩ := axs_n (lf T f) g S0 k
          have ol := ox_le g k
          refine hG 60 [6] _ _ _ _ ?_
          refine And.intro (fun _ => And.intro ik (And.intro (fun c => ?_) (fun c => ?_))) (fun c => ?_)
          · have c : σ1.1 36 0 k ≤ (k : Int) := c
            rw [gk] at c
            refine And.intro (by unfold sn_R; omega) (ih (k + 1) σ1 _ (by omega) (by omega) ?_ (fun j hj hgj => ?_) f1)
            · rw [axs_s, if_neg (by omega)]
              exact hx
            · have : j ≠ k := fun z => by subst z; omega
              exact hae j (by omega) hgj
          · have c : (k : Int) < σ1.1 36 0 k := c
            rw [gk] at c
            have a1 := lsA_at hA1 k9
            have a2 := lsA_at hA1 r2
            refine And.intro ik (And.intro ik (And.intro igk (And.intro rfl ⟨axs (lf T f) g (s_0 S0) k, hx, by omega, by omega, fun σ2 v2 f2 => ?_⟩)))
            have v2 : sx_v (s_X (s_ax (axs (lf T f) g (s_0 S0) k) (σ1.1 35 0 k) (σ1.1 35 0 (σ1.1 36 0 k).toNat))) i σ2 := v2
            rw [gk, r1, show ((r : Int)).toNat = r from rfl, a1, a2] at v2
            have f2 : sx_f i σ1 σ2 := f2
            have f12 := sn_fr_t f1 (sxf f2)
            obtain ⟨-, hA2, hg2⟩ := keep σ2 f12
            have gk2 := hg2 k k9
            have e11 : σ2.1 11 i (axs (lf T f) g (s_0 S0) k).2.1 = 2 * (ox g k : Int) := by
              have : σ2.1 11 i = (s_ax (axs (lf T f) g (s_0 S0) k) ((lf T f).getD k 0 : Int) ((lf T f).getD r 0 : Int)).1 1 := v2.1 1 (by omega)
              rw [this]
              show sn_up _ (axs (lf T f) g (s_0 S0) k).2.1 ((axs (lf T f) g (s_0 S0) k).2.2.1 : Int) (axs (lf T f) g (s_0 S0) k).2.1 = _
              rw [sn_up_at, m2]
              omega
            have e12 : σ2.1 12 i (axs (lf T f) g (s_0 S0) k).2.1 = 2 * (ox g k : Int) + 1 := by
              have : σ2.1 12 i = (s_ax (axs (lf T f) g (s_0 S0) k) ((lf T f).getD k 0 : Int) ((lf T f).getD r 0 : Int)).1 2 := v2.1 2 (by omega)
              rw [this]
              show sn_up _ (axs (lf T f) g (s_0 S0) k).2.1 (((axs (lf T f) g (s_0 S0) k).2.2.1 : Int) + 1) (axs (lf T f) g (s_0 S0) k).2.1 = _
              rw [sn_up_at, m2]
              omega
            have ax : (0 : Int) ≤ ((axs (lf T f) g (s_0 S0) k).2.1 : Int) ∧ ((axs (lf T f) g (s_0 S0) k).2.1 : Int) < (60 : Nat) := by omega
            have igk2 : 0 ≤ σ2.1 36 0 k ∧ σ2.1 36 0 k < (8 : Nat) := by rw [gk2, r1]; omega
            refine And.intro ax (And.intro ik (And.intro ik (And.intro ax (And.intro igk2 (And.intro (by unfold sn_R; omega) ?_)))))
            have key := ih (k + 1) (sn_u (sn_u σ2.1 37 0 k (2 * (ox g k : Int))) 37 0 r (2 * (ox g k : Int) + 1), σ2.2) (some (.inl ((axs (lf T f) g (s_0 S0) k).2.1 : Int))) (by omega) (by omega) ?_ (fun j hj hgj => ?_) (sn_fr_u (σ' := (sn_u σ2.1 37 0 k (2 * (ox g k : Int)), σ2.2)) (sn_fr_u f12 (Or.inl rfl) _) (Or.inl rfl) _)
            · show G 6 [some (.inr (.inr (33, 0))), some (.inr (.inr (1, 0))), some (.inr (.inr (9, i))), some (.inl ((k : Int) + 1)), some (.inl ((axs (lf T f) g (s_0 S0) k).2.1 : Int)), none, none, none] [] (sn_u (sn_u σ2.1 37 0 k (σ2.1 11 i (axs (lf T f) g (s_0 S0) k).2.1)) 37 0 (σ2.1 36 0 k).toNat (σ2.1 12 i (axs (lf T f) g (s_0 S0) k).2.1), σ2.2)
              rw [e11, e12, gk2, r1]
              exact key
            · rw [axs_s, if_pos c, r1, show ((r : Int)).toNat = r from rfl]
              refine ⟨fun b hb => ?_, fun j h1 h2 => ?_⟩
              · show (sn_u (sn_u σ2.1 37 0 k (2 * (ox g k : Int))) 37 0 r (2 * (ox g k : Int) + 1)) (10 + b) i = _
                rw [sn_u_rk (by omega), sn_u_rk (by omega)]
                exact v2.1 b hb
              · show (sn_u (sn_u σ2.1 37 0 k (2 * (ox g k : Int))) 37 0 r (2 * (ox g k : Int) + 1)) 9 i j = _
                rw [sn_u_n (by omega), sn_u_n (by omega)]
                exact v2.2 j h1 h2
            · have rd : ∀ y, (sn_u (sn_u σ2.1 37 0 k (2 * (ox g k : Int))) 37 0 r (2 * (ox g k : Int) + 1)) 37 0 y = if y = r then 2 * (ox g k : Int) + 1 else if y = k then 2 * (ox g k : Int) else σ1.1 37 0 y := by
                intro y
                rw [sn_u_at, sn_u_at, f2.2 37 0 y (by omega)]
              show (sn_u (sn_u σ2.1 37 0 k (2 * (ox g k : Int))) 37 0 r (2 * (ox g k : Int) + 1)) 37 0 j = _ ∧ (sn_u (sn_u σ2.1 37 0 k (2 * (ox g k : Int))) 37 0 r (2 * (ox g k : Int) + 1)) 37 0 (g j).toNat = _
              rw [rd, rd]
              by_cases w : j = k
              · subst w
                have er : (g j).toNat = r := by rw [r1]; rfl
                rw [er, if_neg (by omega), if_pos rfl, if_pos rfl]
                refine ⟨?_, ?_⟩
                · unfold ae
                  rw [if_pos c]
                · unfold ae
                  rw [if_neg (by omega), r4]
                  rfl
              · obtain ⟨y, y1, y2, y3, y4⟩ := hm.1 j (by omega)
                have ey : (g j).toNat = y := by rw [y1]; rfl
                have h1 : j ≠ r := fun z => by subst z; rw [r4] at hgj; omega
                have h2 : y ≠ r := fun z => by subst z; rw [r4] at y4; omega
                have h3 : y ≠ k := fun z => by subst z; omega
                have := hae j (by omega) hgj
                rw [ey] at this ⊢
                rw [if_neg h1, if_neg w, if_neg h2, if_neg h3]
                exact this
          · have c : σ1.1 33 0 10 ≤ (k : Int) := c
            omega
      refine hG 20 [6] _ _ _ _ ?_
      refine And.intro rfl ⟨X0, ⟨fun a ha => rfl, fun j h1 h2 => rfl⟩, fun σ1 v1 f1 => ?_⟩
      have f1 : sx_f i σ σ1 := f1
      exact one (lf T f).length 0 σ1 _ rfl (Nat.zero_le _) (sx_e v1 ⟨rfl, rfl, rfl, rfl, rfl, rfl, rfl, rfl, rfl⟩ ⟨rfl, rfl, rfl, rfl, rfl, rfl⟩) (fun j hj => absurd hj (Nat.not_lt_zero j)) (sxf f1)
    · exact h.elim
