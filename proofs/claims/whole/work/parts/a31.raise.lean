/-! The reference: the next linking. -/
theorem ptn_x {x : Nat × Nat} {st : pth} (h : x.1 ≠ x.2) : ptn (x :: st) x.1 = (x.2 : Int) ∧ ptn (x :: st) x.2 = (x.1 : Int) ∧ ∀ t, t ≠ x.1 → t ≠ x.2 → ptn (x :: st) t = ptn st t := by
  refine ⟨?_, sn_up_at _ _ _, fun t h1 h2 => ?_⟩
  · show sn_up (sn_up (ptn st) x.1 (x.2 : Int)) x.2 (x.1 : Int) x.1 = _
    rw [sn_up_ne _ h, sn_up_at]
  · show sn_up (sn_up (ptn st) x.1 (x.2 : Int)) x.2 (x.1 : Int) t = _
    rw [sn_up_ne _ h2, sn_up_ne _ h1]
theorem ptn_grow {x : Nat × Nat} {st : pth} (h : x.1 ≠ x.2) {t : Nat} (ht : ¬ ptn st t = -1) : ¬ ptn (x :: st) t = -1 := by
  obtain ⟨h1, h2, h3⟩ := ptn_x (st := st) h
  by_cases w1 : t = x.1
  · subst w1
    rw [h1]
    omega
  · by_cases w2 : t = x.2
    · subst w2
      rw [h2]
      omega
    · rw [h3 t w1 w2]
      exact ht
/-- openers come before the first that is alone -/
theorem op_lt {n : Nat} {ft : Nat → Nat → Bool} : ∀ {st : pth}, wf n ft st → ∀ y ∈ st, y.1 < fa (ptn st) n := by
  intro st
  induction st with
  | nil => intro _ y hy; cases hy
  | cons x st ih =>
    intro h y hy
    obtain ⟨h0, h1, h2, h3, h4, h5⟩ := h
    obtain ⟨f1, f2, f3⟩ := fa_ok (ptn st) n
    obtain ⟨g1, g2, g3⟩ := fa_ok (ptn (x :: st)) n
    have key : x.1 < fa (ptn (x :: st)) n := by
      refine Classical.byContradiction (fun z => ?_)
      have g2 := g2 (by omega)
      by_cases w : fa (ptn (x :: st)) n = x.1
      · rw [w, (ptn_x (st := st) (by omega)).1] at g2
        omega
      · exact ptn_grow (by omega) (f3 _ (by omega)) g2
    rcases List.mem_cons.mp hy with rfl | hy
    · exact key
    · have := ih h0 y hy
      omega
theorem ptn_in {n : Nat} {ft : Nat → Nat → Bool} : ∀ {st : pth}, wf n ft st → ∀ y ∈ st, ptn st y.1 = (y.2 : Int) ∧ y.1 < y.2 ∧ y.2 < n := by
  intro st
  induction st with
  | nil => intro _ y hy; cases hy
  | cons x st ih =>
    intro h y hy
    have hw := h
    obtain ⟨h0, h1, h2, h3, h4, h5⟩ := h
    obtain ⟨p1, p2, p3⟩ := ptn_x (x := x) (st := st) (by omega)
    rcases List.mem_cons.mp hy with rfl | hy
    · exact ⟨p1, h2, h3⟩
    · obtain ⟨i1, i2, i3⟩ := ih h0 y hy
      have := op_lt h0 y hy
      refine ⟨?_, i2, i3⟩
      rw [p3 y.1 (by omega) (fun z => by rw [z, h4] at i1; omega)]
      exact i1
theorem ptn_op {n : Nat} {ft : Nat → Nat → Bool} : ∀ {st : pth}, wf n ft st → ∀ k : Nat, (k : Int) < ptn st k → ∃ y ∈ st, y.1 = k := by
  intro st
  induction st with
  | nil =>
    intro _ k hk
    have hk : (k : Int) < -1 := hk
    omega
  | cons x st ih =>
    intro h k hk
    obtain ⟨h0, h1, h2, h3, h4, h5⟩ := h
    obtain ⟨p1, p2, p3⟩ := ptn_x (x := x) (st := st) (by omega)
    by_cases w1 : k = x.1
    · exact ⟨x, List.mem_cons_self, w1.symm⟩
    · by_cases w2 : k = x.2
      · subst w2
        rw [p2] at hk
        omega
      · rw [p3 k w1 w2] at hk
        obtain ⟨y, hy, e⟩ := ih h0 k hk
        exact ⟨y, List.mem_cons_of_mem _ hy, e⟩
/-- the opener that comes last is on top -/
theorem wf_top {n : Nat} {ft : Nat → Nat → Bool} {st : pth} (h : wf n ft st) {k : Nat} (hk : (k : Int) < ptn st k) (hb : ∀ y ∈ st, y.1 ≤ k) : ∃ p st0, st = (k, p) :: st0 ∧ ptn st k = (p : Int) := by
  obtain ⟨y, hy, e⟩ := ptn_op h k hk
  match st, h, hy, hb with
  | x :: st0, h, hy, hb =>
    have hx : x.1 = k := by
      rcases List.mem_cons.mp hy with rfl | hy'
      · exact e
      · have := op_lt h.1 y hy'
        have h1 := h.2.1
        have := hb x List.mem_cons_self
        omega
    refine ⟨x.2, st0, by rw [← hx], ?_⟩
    rw [← hx]
    exact (ptn_in h x List.mem_cons_self).1
def pvm (σ : sn_M) (st : pth) : Prop := ∀ k, k < 8 → σ.1 62 0 k = ptn st k
def rs_P (a _ _ : Nat) : Prop := a = 62
theorem rs_mt {T : fT} {f : Nat} {σ σ' : sn_M} (hm : mt_v T σ) (hA : mlA T f σ) (fr : sn_fr rs_P σ σ') : mt_v T σ' ∧ mlA T f σ' := ⟨mt_v_fr hm fr (fun a c h1 h2 z => by unfold rs_P at z; omega) (fun z => by unfold rs_P at z; omega), fun i g hg => by rw [fr.2 61 0 i (fun z => by unfold rs_P at z; omega)]; exact hA.1 i g hg, by rw [fr.2 40 0 24 (fun z => by unfold rs_P at z; omega)]; exact hA.2⟩
def sp_MD_raise : sn_P := fun vs σ po => match vs with
  | [.inr (.inr q), .inl x] => q = (40, 0) ∧ ∃ (T : fT) (f h : Nat) (st : pth), mt_v T σ ∧ fT_ok T ∧ T.2 ≤ 80 ∧ f < T.2 ∧ (lf T f).length ≤ 8 ∧ mlA T f σ ∧ wf (lf T f).length (fit T (lf T f)) st ∧ pvm σ st ∧ (-1 ≤ x ∧ x < 8) ∧ (∀ y ∈ st, (y.1 : Int) ≤ x) ∧ (∀ (st' : pth) (σ' : sn_M), wf (lf T f).length (fit T (lf T f)) st' → rest (lf T f).length (fit T (lf T f)) h st = Wl (lf T f).length (fit T (lf T f)) h st' → pvm σ' st' → sn_fr rs_P σ σ' → po (some (.inl 1)) σ') ∧ (∀ (σ' : sn_M), rest (lf T f).length (fit T (lf T f)) h st = [] → sn_fr rs_P σ σ' → po (some (.inl 0)) σ')
  | _ => False
def ca_MD_raise : List (Nat × Nat × Nat × sn_P) := [(223, 3, 8, sp_MD_fit)]
theorem co_MD_raise : ∀ x n ci s', sn_lk ca_MD_raise x = some (n, ci, s') → sn_CO "SwitchedNetsModel" sn_ws 1 x n ci s' := sn_co_of (List.forall_mem_cons.mpr ⟨sn_CO_V ("SwitchedNetsModel", T_MD, 29) ct_MD_fit (by decide) (by decide) (sn_gV ml_MD_223 mi_MD_fit ms_MD_fit mz_MD mc_MD_fit) (by decide) rfl rfl ⟨nh_MD.1, nh_MD.2, pn_MD_fit⟩, fun _ h => absurd h List.not_mem_nil⟩)
set_option maxHeartbeats 4000000 in
theorem ct_MD_raise : sn_CT y_MD_raise ws_MD_raise 1 sp_MD_raise := by
  refine sn_CT_of (pr := pr_MD_raise) (fi := (sn_lk ft_MD)) (lc := (sn_lk lc_MD)) (ca := sn_lk ca_MD_raise) pl_MD ?_ pk_MD_raise FI_MD LC_MD co_MD_raise ?_
  · intro vs σ post h
    unfold sp_MD_raise at h
    split at h
    · exact Nat.le_of_ble_eq_true rfl
    · exact h.elim
  · intro vs σ post h hvs hR
    unfold sp_MD_raise at h
    split at h
    · next q x =>
      obtain ⟨rfl, T, f, h, st, hm, hT, h80, hf, h8, hA, hw, hp, hx, hb, h1, h0⟩ := h
      intro G hG
      have loop : ∀ (d : Nat) (k : Int) (st1 : pth) (σ1 : sn_M) (o3 o4 : Option sn_V), (k + 1).toNat = d → -1 ≤ k → k < 8 → wf (lf T f).length (fit T (lf T f)) st1 → pvm σ1 st1 → (∀ y ∈ st1, (y.1 : Int) ≤ k) → rest (lf T f).length (fit T (lf T f)) h st = rest (lf T f).length (fit T (lf T f)) h st1 → sn_fr rs_P σ σ1 → G 2 [some (.inr (.inr (40, 0))), some (.inl x), some (.inl k), o3, o4] [] σ1 := by
        intro d
        induction d with
        | zero =>
          intro k st1 σ1 o3 o4 hd hk1 hk8 hw1 hp1 hb1 hr f1
          have e : st1 = [] := by
            match st1, hb1 with
            | [], _ => rfl
            | y :: _, hb1 => have := hb1 y List.mem_cons_self; omega
          subst e
          refine hG 20 [2] _ _ _ _ ?_
          refine And.intro (fun _ => And.intro (Or.inl rfl) (h0 σ1 hr f1)) (fun z => ?_)
          have z : 0 ≤ k := z
          omega
        | succ d ih =>
          intro k st1 σ1 o3 o4 hd hk1 hk8 hw1 hp1 hb1 hr f1
          obtain ⟨kn, rfl⟩ := Int.eq_ofNat_of_zero_le (show 0 ≤ k by omega)
          have ik : (0 : Int) ≤ (kn : Int) ∧ (kn : Int) < (8 : Nat) := by omega
          have pk := hp1 kn (by omega)
          refine hG 40 [37, 2] _ _ _ _ ?_
          refine And.intro (fun z => ?_) (fun _ => And.intro ik (And.intro (fun c => ?_) (fun c => ?_)))
          · have z : (kn : Int) < 0 := z
            omega
          · have c : σ1.1 62 0 kn ≤ (kn : Int) := c
            rw [pk] at c
            refine And.intro (by unfold sn_R; omega) (ih ((kn : Int) + -1) st1 σ1 _ _ (by omega) (by omega) (by omega) hw1 hp1 (fun y hy => ?_) hr f1)
            have := hb1 y hy
            obtain ⟨i1, i2, -⟩ := ptn_in hw1 y hy
            have : y.1 ≠ kn := fun w => by subst w; omega
            omega
          · have c : (kn : Int) < σ1.1 62 0 kn := c
            rw [pk] at c
            obtain ⟨w, st0, e, ew⟩ := wf_top hw1 c (fun y hy => by have := hb1 y hy; omega)
            subst e
            have hw0 := hw1
            obtain ⟨v0, v1, v2, v3, v4, v5⟩ := hw0
            have v1 : kn = fa (ptn st0) (lf T f).length := v1
            have v2 : kn < w := v2
            have v3 : w < (lf T f).length := v3
            have iw : (0 : Int) ≤ (w : Int) ∧ (w : Int) < (8 : Nat) := by omega
            -- what comes after
            have inner : ∀ (e p : Nat) (σ2 : sn_M), p + e = (lf T f).length → w < p → (∀ t, w < t → t < p → ¬ (ptn st0 t = -1 ∧ fit T (lf T f) kn t = true)) → pvm σ2 st0 → sn_fr rs_P σ σ2 → G 37 [some (.inr (.inr (40, 0))), some (.inl x), some (.inl (kn : Int)), some (.inl (w : Int)), some (.inl (p : Int))] [] σ2 := by
              intro e
              induction e with
              | zero =>
                intro p σ2 hpe hwp hno hp2 f2
                obtain ⟨-, hA2⟩ := rs_mt hm hA f2
                have e24 := hA2.2
                refine hG 20 [2] _ _ _ _ ?_
                refine And.intro (fun z => ?_) (fun _ => And.intro (by unfold sn_R; omega) (ih ((kn : Int) + -1) st0 σ2 _ _ (by omega) (by omega) (by omega) v0 hp2 (fun y hy => ?_) ?_ f2))
                · have z : (p : Int) < σ2.1 40 0 24 := z
                  omega
                · have := op_lt v0 y hy
                  omega
                · rw [hr]
                  exact rest_up (fun t t1 t2 => hno t t1 (by omega))
              | succ e ihe =>
                intro p σ2 hpe hwp hno hp2 f2
                obtain ⟨hm2, hA2⟩ := rs_mt hm hA f2
                have e24 := hA2.2
                have p9 : p < (lf T f).length := by omega
                have ip : (0 : Int) ≤ (p : Int) ∧ (p : Int) < (8 : Nat) := by omega
                have pp' := hp2 p (by omega)
                have skip : ¬ (ptn st0 p = -1 ∧ fit T (lf T f) kn p = true) → sn_R ((p : Int) + 1) ∧ G 37 [some (.inr (.inr (40, 0))), some (.inl x), some (.inl (kn : Int)), some (.inl (w : Int)), some (.inl ((p : Int) + 1))] [] σ2 := by
                  intro hz
                  refine And.intro (by unfold sn_R; omega) (ihe (p + 1) σ2 (by omega) (by omega) (fun t t1 t2 => ?_) hp2 f2)
                  by_cases y : t = p
                  · subst y
                    exact hz
                  · exact hno t t1 (by omega)
                refine hG 40 [37] _ _ _ _ ?_
                refine And.intro (fun _ => And.intro ip (And.intro (fun z => ?_) (fun z => ?_))) (fun z => ?_)
                · have z : σ2.1 62 0 p < 0 := z
                  rw [pp'] at z
                  have al : ptn st0 p = -1 := by
                    rcases wf_pt v0 p with y | ⟨r, y, -⟩
                    · exact y
                    · omega
                  refine md_fit hm2 hT h80 hf h8 hA2 (by omega) p9 _ (fun hfit => And.intro (fun y => absurd y (by decide)) (fun _ => And.intro ik (And.intro ip (And.intro (Or.inr rfl) ?_)))) (fun hfit => And.intro (fun _ => skip (fun y => hfit y.2)) (fun y => absurd rfl y))
                  refine h1 ((kn, p) :: st0) _ ⟨v0, v1, by show kn < p; omega, p9, al, hfit⟩ ?_ (fun t ht => ?_) (sn_fr_u (σ' := (sn_u σ2.1 62 0 kn (p : Int), σ2.2)) (sn_fr_u f2 rfl _) rfl _)
                  · rw [hr]
                    exact rest_next hwp p9 hno ⟨al, hfit⟩
                  · show sn_u (sn_u σ2.1 62 0 kn (p : Int)) 62 0 p (kn : Int) 62 0 t = sn_up (sn_up (ptn st0) kn (p : Int)) p (kn : Int) t
                    rw [sn_u_at, sn_u_at]
                    unfold sn_up
                    rw [hp2 t ht]
                · have z : 0 ≤ σ2.1 62 0 p := z
                  rw [pp'] at z
                  exact skip (fun y => by have := y.1; omega)
                · have z : σ2.1 40 0 24 ≤ (p : Int) := z
                  omega
            have tw : (σ1.1 62 0 kn) = (w : Int) := pk.trans ew
            refine And.intro ik (And.intro ?_ (And.intro ?_ ?_))
            · show 0 ≤ σ1.1 62 0 kn ∧ σ1.1 62 0 kn < (8 : Nat)
              rw [tw]
              exact iw
            · show sn_R (σ1.1 62 0 kn + 1)
              rw [tw]
              unfold sn_R
              omega
            · show G 37 [some (.inr (.inr (40, 0))), some (.inl x), some (.inl (kn : Int)), some (.inl (σ1.1 62 0 kn)), some (.inl (σ1.1 62 0 kn + 1))] [] (sn_u (sn_u σ1.1 62 0 kn (-1)) 62 0 (σ1.1 62 0 kn).toNat (-1), σ1.2)
              rw [tw]
              refine inner ((lf T f).length - (w + 1)) (w + 1) _ (by omega) (by omega) (fun t t1 t2 => by omega) (fun t ht => ?_) (sn_fr_u (σ' := (sn_u σ1.1 62 0 kn (-1), σ1.2)) (sn_fr_u f1 rfl _) rfl _)
              show sn_u (sn_u σ1.1 62 0 kn (-1)) 62 0 w (-1) 62 0 t = _
              rw [sn_u_at, sn_u_at, ← ptn_back hw1]
              unfold sn_up
              rw [hp1 t ht]
      refine hG 10 [2] _ _ _ _ ?_
      exact loop _ x st σ none none rfl hx.1 hx.2 hw hp hb rfl (sn_fr_rf _ σ)
    · exact h.elim
def sp_MD_fill : sn_P := fun vs σ po => match vs with
  | [.inr (.inr q)] => q = (40, 0) ∧ ∃ (T : fT) (f h : Nat) (st : pth), mt_v T σ ∧ fT_ok T ∧ T.2 ≤ 80 ∧ f < T.2 ∧ (lf T f).length ≤ 8 ∧ (lf T f).length = 2 * h ∧ mlA T f σ ∧ wf (lf T f).length (fit T (lf T f)) st ∧ pvm σ st ∧ (∀ (st' : pth) (σ' : sn_M), wf (lf T f).length (fit T (lf T f)) st' → st'.length = h → lvs h (Wl (lf T f).length (fit T (lf T f)) h st) = lvs h (Wl (lf T f).length (fit T (lf T f)) h st') → pvm σ' st' → sn_fr rs_P σ σ' → po (some (.inl 1)) σ') ∧ (∀ (σ' : sn_M), lvs h (Wl (lf T f).length (fit T (lf T f)) h st) = [] → sn_fr rs_P σ σ' → po (some (.inl 0)) σ')
  | _ => False
theorem lvs_c {h : Nat} {st : pth} {L : List pth} (hl : st.length < h) : lvs h (st :: L) = lvs h L := List.filter_cons_of_neg (by rw [decide_eq_true_eq]; omega)
def ca_MD_fill : List (Nat × Nat × Nat × sn_P) := [(223, 3, 8, sp_MD_fit), (226, 2, 8, sp_MD_raise)]
theorem co_MD_fill : ∀ x n ci s', sn_lk ca_MD_fill x = some (n, ci, s') → sn_CO "SwitchedNetsModel" sn_ws 2 x n ci s' := sn_co_of (List.forall_mem_cons.mpr ⟨sn_CO_V ("SwitchedNetsModel", T_MD, 29) ct_MD_fit (by decide) (by decide) (sn_gV ml_MD_223 mi_MD_fit ms_MD_fit mz_MD mc_MD_fit) (by decide) rfl rfl ⟨nh_MD.1, nh_MD.2, pn_MD_fit⟩, List.forall_mem_cons.mpr ⟨sn_CO_V ("SwitchedNetsModel", T_MD, 29) ct_MD_raise (by decide) (by decide) (sn_gV ml_MD_226 mi_MD_raise ms_MD_raise mz_MD mc_MD_raise) (by decide) rfl rfl ⟨nh_MD.1, nh_MD.2, pn_MD_raise⟩, fun _ h => absurd h List.not_mem_nil⟩⟩)
set_option maxHeartbeats 4000000 in
theorem ct_MD_fill : sn_CT y_MD_fill ws_MD_fill 2 sp_MD_fill := by
  refine sn_CT_of (pr := pr_MD_fill) (fi := (sn_lk ft_MD)) (lc := (sn_lk lc_MD)) (ca := sn_lk ca_MD_fill) pl_MD ?_ pk_MD_fill FI_MD LC_MD co_MD_fill ?_
  · intro vs σ post h
    unfold sp_MD_fill at h
    split at h
    · exact Nat.le_of_ble_eq_true rfl
    · exact h.elim
  · intro vs σ post h hvs hR
    unfold sp_MD_fill at h
    split at h
    · next q =>
      obtain ⟨rfl, T, f, h, st, hm, hT, h80, hf, h8, h2h, hA, hw, hp, h1, h0⟩ := h
      intro G hG
      -- the next one is not alone
      have m14 : ∀ (st1 : pth) (σ1 : sn_M) (k p : Nat), k < (lf T f).length → pvm σ1 st1 → 0 ≤ ptn st1 k → G 2 [some (.inr (.inr (40, 0))), some (.inl ((k : Int) + 1)), some (.inl (p : Int))] [] σ1 → G 14 [some (.inr (.inr (40, 0))), some (.inl (k : Int)), some (.inl (p : Int))] [] σ1 := by
        intro st1 σ1 k p hk hp1 h0k hg
        have pk := hp1 k (by omega)
        have ik : (0 : Int) ≤ (k : Int) ∧ (k : Int) < (8 : Nat) := by omega
        have e1 : (k : Int) + 1 - 1 = (k : Int) := by omega
        refine hG 30 [2] _ _ _ _ ?_
        refine And.intro ik (And.intro (fun z => ?_) (fun _ => And.intro (by unfold sn_R; omega) (And.intro (by unfold sn_R; omega) (And.intro ?_ (And.intro (fun z => ?_) (fun _ => hg))))))
        · have z : σ1.1 62 0 k < 0 := z
          omega
        · show 0 ≤ (k : Int) + 1 - 1 ∧ (k : Int) + 1 - 1 < (8 : Nat)
          omega
        · have z : σ1.1 62 0 ((k : Int) + 1 - 1).toNat < 0 := z
          rw [e1, show ((k : Int)).toNat = k from rfl] at z
          omega
      have main : ∀ (D : Nat) (st1 : pth) (σ1 : sn_M), (Wl (lf T f).length (fit T (lf T f)) h st1).length < D → wf (lf T f).length (fit T (lf T f)) st1 → pvm σ1 st1 → lvs h (Wl (lf T f).length (fit T (lf T f)) h st) = lvs h (Wl (lf T f).length (fit T (lf T f)) h st1) → sn_fr rs_P σ σ1 → ∀ (d k : Nat) (o2 : Option sn_V), (lf T f).length - k = d → k ≤ (lf T f).length → (∀ j, j < k → ¬ ptn st1 j = -1) → G 2 [some (.inr (.inr (40, 0))), some (.inl (k : Int)), o2] [] σ1 := by
        intro D
        induction D with
        | zero => intro st1 σ1 hD; exact absurd hD (Nat.not_lt_zero _)
        | succ D ihD =>
          intro st1 σ1 hD hw1 hp1 hL f1 d
          obtain ⟨hm1, hA1⟩ := rs_mt hm hA f1
          have e24 := hA1.2
          induction d with
          | zero =>
            intro k o2 hd hk hj
            have ek : k = (lf T f).length := by omega
            subst ek
            have ac0 := ac_p (g := ptn st1) hj
            have := wf_ac hw1
            refine hG 20 [2] _ _ _ _ ?_
            refine And.intro (fun z => ?_) (fun _ => And.intro (Or.inr rfl) (h1 st1 σ1 hw1 (by omega) hL hp1 f1))
            have z : ((lf T f).length : Int) < σ1.1 40 0 24 := z
            omega
          | succ d ihd =>
            intro k o2 hd hk hj
            have k9 : k < (lf T f).length := by omega
            have ik : (0 : Int) ≤ (k : Int) ∧ (k : Int) < (8 : Nat) := by omega
            have pk := hp1 k (by omega)
            have at14 : G 14 [some (.inr (.inr (40, 0))), some (.inl (k : Int)), some (.inl ((k + 1 : Nat) : Int))] [] σ1 := by
              rcases wf_pt hw1 k with al | ⟨r, r1, -⟩
              · -- it is alone
                have ek : fa (ptn st1) (lf T f).length = k := fa_u k9 al hj
                have hlt : st1.length < h := by
                  have := wf_le hw1
                  refine Classical.byContradiction (fun z => ?_)
                  exact wf_full hw1 (by omega) k k9 al
                have inner : ∀ (e p : Nat), p + e = (lf T f).length → k < p → (∀ t, k < t → t < p → ¬ (ptn st1 t = -1 ∧ fit T (lf T f) k t = true)) → G 14 [some (.inr (.inr (40, 0))), some (.inl (k : Int)), some (.inl (p : Int))] [] σ1 := by
                  intro e
                  induction e with
                  | zero =>
                    intro p hpe hkp hno
                    have wn := W_none (n := (lf T f).length) (ft := fit T (lf T f)) (h := h) (st := st1) hlt (by rw [ek]; exact fun t t1 t2 => hno t t1 (by omega))
                    rw [wn, lvs_c hlt] at hL
                    rw [wn, List.length_cons] at hD
                    have e1 : (k : Int) + 1 - 1 = (k : Int) := by omega
                    have e2 : (k : Int) + 1 - 2 = (k : Int) - 1 := by omega
                    refine hG 50 [2] _ _ _ _ ?_
                    refine And.intro ik (And.intro (fun _ => And.intro (fun z => ?_) (fun _ => And.intro (by unfold sn_R; omega) (And.intro (by unfold sn_R; omega) (And.intro ?_ (And.intro (fun _ => And.intro (by unfold sn_R; omega) (And.intro rfl ⟨T, f, h, st1, hm1, hT, h80, hf, h8, hA1, hw1, hp1, ?_, fun y hy => ?_, fun st2 σ2 w2 r2 p2 f2 => And.intro (fun z => absurd z (by decide)) (fun _ => ?_), fun σ2 r2 f2 => And.intro (fun _ => And.intro (Or.inl rfl) (h0 σ2 ?_ (sn_fr_t f1 f2))) (fun z => absurd rfl z)⟩)) (fun z => ?_)))))) (fun z => ?_))
                    · have z : (p : Int) < σ1.1 40 0 24 := z
                      omega
                    · show 0 ≤ (k : Int) + 1 - 1 ∧ (k : Int) + 1 - 1 < (8 : Nat)
                      omega
                    · show -1 ≤ (k : Int) + 1 - 2 ∧ (k : Int) + 1 - 2 < 8
                      omega
                    · show (y.1 : Int) ≤ (k : Int) + 1 - 2
                      have := op_lt hw1 y hy
                      omega
                    · refine ihD st2 σ2 (by rw [← r2]; omega) w2 p2 (by rw [hL, r2]) (sn_fr_t f1 f2) (lf T f).length 0 _ rfl (Nat.zero_le _) (fun j hj' => absurd hj' (Nat.not_lt_zero j))
                    · rw [hL, r2]
                      rfl
                    · have z : 0 ≤ σ1.1 62 0 ((k : Int) + 1 - 1).toNat := z
                      rw [e1, show ((k : Int)).toNat = k from rfl, pk, al] at z
                      omega
                    · have z : 0 ≤ σ1.1 62 0 k := z
                      rw [pk, al] at z
                      omega
                  | succ e ihe =>
                    intro p hpe hkp hno
                    have p9 : p < (lf T f).length := by omega
                    have ip : (0 : Int) ≤ (p : Int) ∧ (p : Int) < (8 : Nat) := by omega
                    have pp' := hp1 p (by omega)
                    have skip : ¬ (ptn st1 p = -1 ∧ fit T (lf T f) k p = true) → sn_R ((p : Int) + 1) ∧ G 14 [some (.inr (.inr (40, 0))), some (.inl (k : Int)), some (.inl ((p : Int) + 1))] [] σ1 := by
                      intro hz
                      refine And.intro (by unfold sn_R; omega) (ihe (p + 1) (by omega) (by omega) (fun t t1 t2 => ?_))
                      by_cases y : t = p
                      · subst y
                        exact hz
                      · exact hno t t1 (by omega)
                    refine hG 50 [14] _ _ _ _ ?_
                    refine And.intro ik (And.intro (fun _ => And.intro (fun _ => And.intro ip (And.intro (fun z => ?_) (fun z => ?_))) (fun z => ?_)) (fun z => ?_))
                    · have z : σ1.1 62 0 p < 0 := z
                      rw [pp'] at z
                      have alp : ptn st1 p = -1 := by
                        rcases wf_pt hw1 p with y | ⟨r, y, -⟩
                        · exact y
                        · omega
                      refine md_fit hm1 hT h80 hf h8 hA1 k9 p9 _ (fun hfit => And.intro (fun y => absurd y (by decide)) (fun _ => And.intro ik (And.intro ip (And.intro (by unfold sn_R; omega) ?_)))) (fun hfit => And.intro (fun _ => skip (fun y => hfit y.2)) (fun y => absurd rfl y))
                      have wd := W_down (n := (lf T f).length) (ft := fit T (lf T f)) (h := h) (st := st1) (p := p) hlt (by rw [ek]; exact hkp) p9 (by rw [ek]; exact hno) (by rw [ek]; exact ⟨alp, hfit⟩)
                      rw [ek] at wd
                      rw [wd, lvs_c hlt] at hL
                      rw [wd, List.length_cons] at hD
                      have w2 : wf (lf T f).length (fit T (lf T f)) ((k, p) :: st1) := ⟨hw1, ek.symm, hkp, p9, alp, hfit⟩
                      have p2 : pvm (sn_u (sn_u σ1.1 62 0 k (p : Int)) 62 0 p (k : Int), σ1.2) ((k, p) :: st1) := by
                        intro t ht
                        show sn_u (sn_u σ1.1 62 0 k (p : Int)) 62 0 p (k : Int) 62 0 t = sn_up (sn_up (ptn st1) k (p : Int)) p (k : Int) t
                        rw [sn_u_at, sn_u_at]
                        unfold sn_up
                        rw [hp1 t ht]
                      have p0 := (ptn_x (x := (k, p)) (st := st1) (show k ≠ p by omega)).1
                      have p0 : ptn ((k, p) :: st1) k = (p : Int) := p0
                      refine m14 ((k, p) :: st1) _ k (p + 1) k9 p2 (by rw [p0]; omega) ?_
                      refine ihD ((k, p) :: st1) _ (by omega) w2 p2 hL (sn_fr_u (σ' := (sn_u σ1.1 62 0 k (p : Int), σ1.2)) (sn_fr_u f1 rfl _) rfl _) ((lf T f).length - (k + 1)) (k + 1) _ rfl (by omega) (fun j hj' => ?_)
                      by_cases y : j = k
                      · subst y
                        rw [p0]
                        omega
                      · exact ptn_grow (x := (k, p)) (show k ≠ p by omega) (hj j (by omega))
                    · have z : 0 ≤ σ1.1 62 0 p := z
                      rw [pp'] at z
                      exact skip (fun y => by have := y.1; omega)
                    · have z : σ1.1 40 0 24 ≤ (p : Int) := z
                      omega
                    · have z : 0 ≤ σ1.1 62 0 k := z
                      rw [pk, al] at z
                      omega
                exact inner ((lf T f).length - (k + 1)) (k + 1) (by omega) (by omega) (fun t t1 t2 => by omega)
              · refine m14 st1 σ1 k (k + 1) k9 hp1 (by omega) (ihd (k + 1) _ (by omega) (by omega) (fun j hj' => ?_))
                by_cases y : j = k
                · subst y
                  omega
                · exact hj j (by omega)
            refine hG 20 [14] _ _ _ _ ?_
            refine And.intro (fun _ => And.intro (by unfold sn_R; omega) at14) (fun z => ?_)
            have z : σ1.1 40 0 24 ≤ (k : Int) := z
            omega
      refine hG 10 [2] _ _ _ _ ?_
      exact main _ st σ (Nat.lt_succ_self _) hw hp rfl (sn_fr_rf _ σ) (lf T f).length 0 none rfl (Nat.zero_le _) (fun j hj => absurd hj (Nat.not_lt_zero j))
    · exact h.elim
