/-! The reference's makeDual. -/
theorem fm_F_c {K L R K' L' R' : Nat → Int} {n : Nat} (e : ∀ g, g < n → K' g = K g ∧ L' g = L g ∧ R' g = R g) {a b c x : Int} (h : fm_F K L R n a b c x) : fm_F K' L' R' n a b c x := by
  rcases h with ⟨h1, h2⟩ | ⟨j, hj, h1, h2⟩
  · refine Or.inl ⟨h1, fun j hj z => h2 j hj ?_⟩
    obtain ⟨z1, z2, z3⟩ := z
    obtain ⟨e1, e2, e3⟩ := e j hj
    exact ⟨by rw [← e1]; exact z1, by rw [← e2]; exact z2, by rw [← e3]; exact z3⟩
  · obtain ⟨e1, e2, e3⟩ := e j hj
    obtain ⟨z1, z2, z3⟩ := h2
    exact Or.inr ⟨j, hj, h1, by rw [e1]; exact z1, by rw [e2]; exact z2, by rw [e3]; exact z3⟩
theorem dp_c {K L R K' L' R' : Nat → Int} {n : Nat} (e : ∀ g, g < n → K' g = K g ∧ L' g = L g ∧ R' g = R g) {d : Nat → Int} (h : dp_ok K L R n d) : dp_ok K' L' R' n d := by
  intro f hf
  obtain ⟨e1, e2, e3⟩ := e f hf
  obtain ⟨h1, h2⟩ := h f hf
  unfold dp_at
  rw [e1, e2, e3]
  exact ⟨fun z => fm_F_c e (h1 z), fun z => ⟨(h2 z).1, fun a b => fm_F_c e ((h2 z).2 a b)⟩⟩
theorem tb_w_c {K L R K' L' R' : Nat → Int} {n : Nat} (e : ∀ g, g < n → K' g = K g ∧ L' g = L g ∧ R' g = R g) (h : tb_w K L R n) : tb_w K' L' R' n := by
  intro f hf
  obtain ⟨e1, e2, e3⟩ := e f hf
  rw [e1, e2, e3]
  exact h f hf
def mt_v (T : fT) (σ : sn_M) : Prop := (∀ g, g < T.2 → σ.1 41 0 g = T.1 0 g ∧ σ.1 42 0 g = T.1 1 g ∧ σ.1 43 0 g = T.1 2 g) ∧ σ.1 40 0 1 = (T.2 : Int)
def mt_f (σ σ' : sn_M) : Prop := sn_fr (fun a _ c => (41 ≤ a ∧ a ≤ 45) ∨ (a = 40 ∧ c = 1)) σ σ'
def mt_g (T : fT) (σ : sn_M) : Prop := ∀ g, g < T.2 → σ.1 44 0 g = T.1 3 g
theorem mt_f_rf (σ : sn_M) : mt_f σ σ := ⟨rfl, fun _ _ _ _ => rfl⟩
theorem mt_f_t {σ σ' σ'' : sn_M} (h : mt_f σ σ') (g : mt_f σ' σ'') : mt_f σ σ'' := sn_fr_t h g
theorem mt_d {T : fT} {σ : sn_M} (h : mt_v T σ) (hT : fT_ok T) {d : Nat → Int} (hd : dp_ok (σ.1 41 0) (σ.1 42 0) (σ.1 43 0) T.2 d) : ∀ g, g < T.2 → d g = T.1 3 g :=
  dp_u hT.1 hT.2.1 (dp_c (fun g hg => ⟨(h.1 g hg).1.symm, (h.1 g hg).2.1.symm, (h.1 g hg).2.2.symm⟩) hd) hT.2.2.1
theorem mt_add {T : fT} {σ : sn_M} (h : mt_v T σ) (k l r x : Int) : mt_v (fT_add T k l r x) (md_add σ k l r) := by
  have en : (σ.1 40 0 1).toNat = T.2 := by rw [h.2]; rfl
  refine ⟨fun g hg => ?_, ?_⟩
  · have hg : g < T.2 + 1 := hg
    have r1 : (md_add σ k l r).1 41 0 = sn_up (σ.1 41 0) T.2 k := by
      unfold md_add
      dsimp only
      rw [sn_u_rk (by omega), sn_u_rk (by omega), sn_u_rk (by omega), sn_u_rs, en]
    have r2 : (md_add σ k l r).1 42 0 = sn_up (σ.1 42 0) T.2 l := by
      unfold md_add
      dsimp only
      rw [sn_u_rk (by omega), sn_u_rk (by omega), sn_u_rs, sn_u_rk (by omega), en]
    have r3 : (md_add σ k l r).1 43 0 = sn_up (σ.1 43 0) T.2 r := by
      unfold md_add
      dsimp only
      rw [sn_u_rk (by omega), sn_u_rs, sn_u_rk (by omega), sn_u_rk (by omega), en]
    rw [r1, r2, r3]
    show _ = sn_up (T.1 0) T.2 k g ∧ _ = sn_up (T.1 1) T.2 l g ∧ _ = sn_up (T.1 2) T.2 r g
    by_cases e : g = T.2
    · subst e
      rw [sn_up_at, sn_up_at, sn_up_at, sn_up_at, sn_up_at, sn_up_at]
      exact ⟨rfl, rfl, rfl⟩
    · rw [sn_up_ne _ e, sn_up_ne _ e, sn_up_ne _ e, sn_up_ne _ e, sn_up_ne _ e, sn_up_ne _ e]
      exact h.1 g (by omega)
  · show σ.1 40 0 1 + 1 = ((T.2 + 1 : Nat) : Int)
    rw [h.2]
    rfl
theorem mt_add_f (σ : sn_M) (k l r : Int) : mt_f σ (md_add σ k l r) ∧ ∀ j, (md_add σ k l r).1 45 0 j = σ.1 45 0 j := by
  refine ⟨⟨rfl, fun a b c hn => ?_⟩, fun j => ?_⟩
  · unfold md_add
    dsimp only
    rw [sn_u_n (fun z => hn (by omega)), sn_u_n (fun z => hn (by omega)), sn_u_n (fun z => hn (by omega)), sn_u_n (fun z => hn (by omega))]
  · unfold md_add
    dsimp only
    rw [sn_u_rk (by omega), sn_u_rk (by omega), sn_u_rk (by omega), sn_u_rk (by omega)]
def sp_MD_makeDual : sn_P := fun vs σ po => match vs with
  | [.inr (.inr q), .inl f] => q = (40, 0) ∧ ∃ T T' : fT, mt_v T σ ∧ fT_ok T ∧ T.2 ≤ 80 ∧ (0 ≤ f ∧ f < (T.2 : Int)) ∧ dl 80 f.toNat T T' ∧ (T'.2 ≤ 80 → ∀ σ', mt_v T' σ' → mt_f σ σ' → po (some (.inl (T'.1 3 f.toNat))) σ') ∧ (80 < T'.2 → ∀ σ', mt_v T σ' → mt_f σ σ' → po (some (.inl (-1))) σ')
  | _ => False
def ca_MD_makeDual : List (Nat × Nat × Nat × sn_P) := [(94, 1, 8, sp_MD_findDuals), (97, 4, 8, sp_MD_make)]
theorem co_MD_makeDual : ∀ x n ci s', sn_lk ca_MD_makeDual x = some (n, ci, s') → sn_CO "SwitchedNetsModel" sn_ws 2 x n ci s' := sn_co_of (List.forall_mem_cons.mpr ⟨sn_CO_V ("SwitchedNetsModel", T_MD, 29) ct_MD_findDuals (by decide) (by decide) (sn_gV ml_MD_94 mi_MD_findDuals ms_MD_findDuals mz_MD mc_MD_findDuals) (by decide) rfl rfl ⟨nh_MD.1, nh_MD.2, pn_MD_findDuals⟩, List.forall_mem_cons.mpr ⟨sn_CO_V ("SwitchedNetsModel", T_MD, 29) ct_MD_make (by decide) (by decide) (sn_gV ml_MD_97 mi_MD_make ms_MD_make mz_MD mc_MD_make) (by decide) rfl rfl ⟨nh_MD.1, nh_MD.2, pn_MD_make⟩, fun _ h => absurd h List.not_mem_nil⟩⟩)
theorem ct_MD_makeDual : sn_CT y_MD_makeDual ws_MD_makeDual 2 sp_MD_makeDual := by
  refine sn_CT_of (pr := pr_MD_makeDual) (fi := (sn_lk ft_MD)) (lc := (sn_lk lc_MD)) (ca := sn_lk ca_MD_makeDual) pl_MD ?_ pk_MD_makeDual FI_MD LC_MD co_MD_makeDual ?_
  · intro vs σ post h
    unfold sp_MD_makeDual at h
    split at h
    · exact Nat.le_of_ble_eq_true rfl
    · exact h.elim
  · intro vs σ0 post h hvs hR
    unfold sp_MD_makeDual at h
    split at h
    · next q f' =>
      obtain ⟨rfl, T0, T0', hv0, hT0, hn80, ⟨hf0, hf1⟩, hdl, hgood, hbad⟩ := h
      intro G hG
      obtain ⟨f, rfl⟩ := Int.eq_ofNat_of_zero_le hf0
      have ef : ((f : Int)).toNat = f := rfl
      rw [ef] at hgood hdl
      have step : ∀ (T : fT) (g s : Nat) (x : Int) (σ : sn_M), mt_v T σ → fT_ok T → g < T.2 → T.2 ≤ 80 → σ.1 45 0 s = (g : Int) → s + g < 80 → x = (s : Int) + 1 →
          (0 ≤ T.1 3 g → ∀ (y : Int) (σ' : sn_M), y = (s : Int) → mt_v T σ' → mt_g T σ' → mt_f σ σ' → (∀ j, σ'.1 45 0 j = σ.1 45 0 j) → ∀ o4 o5, G 14 [some (.inr (.inr (40, 0))), some (.inl (f : Int)), some (.inl (σ0.1 40 0 1)), some (.inl y), o4, o5] [] σ') →
          (T.1 3 g < 0 → dl_r T g → (T.2 < 80 → ∀ σ' : sn_M, mt_v (dl_a T g) σ' → mt_f σ σ' → (∀ j, σ'.1 45 0 j = σ.1 45 0 j) → ∀ o4 o5, G 14 [some (.inr (.inr (40, 0))), some (.inl (f : Int)), some (.inl (σ0.1 40 0 1)), some (.inl x), o4, o5] [] σ') ∧ (T.2 = 80 → ∀ σ' : sn_M, mt_v T σ' → mt_f σ σ' → post (some (.inl (-1))) (sn_u σ'.1 40 0 1 (σ0.1 40 0 1), σ'.2))) →
          (∀ (r : Nat) (y : Int) (σ' : sn_M), ((¬ T.1 0 g = 0 ∧ T.1 3 (T.1 1 g).toNat < 0 ∧ (r : Int) = T.1 1 g) ∨ (¬ T.1 0 g = 0 ∧ 0 ≤ T.1 3 (T.1 1 g).toNat ∧ T.1 3 (T.1 2 g).toNat < 0 ∧ (r : Int) = T.1 2 g)) → y = (s : Int) + 2 → mt_v T σ' → mt_f σ σ' → (∀ j, j ≤ s → σ'.1 45 0 j = σ.1 45 0 j) → σ'.1 45 0 (s + 1) = (r : Int) → ∀ o4 o5, G 14 [some (.inr (.inr (40, 0))), some (.inl (f : Int)), some (.inl (σ0.1 40 0 1)), some (.inl y), o4, o5] [] σ') →
          ∀ o4 o5, G 14 [some (.inr (.inr (40, 0))), some (.inl (f : Int)), some (.inl (σ0.1 40 0 1)), some (.inl x), o4, o5] [] σ := by
        intro T g s x σ hv hT hg h80 hp hsg hx hA hB hC o4 o5
        have hcnt := hv.2
        have en : (σ.1 40 0 1).toNat = T.2 := by rw [hcnt]; rfl
        have hrm : sn_R (x - 1) := ⟨by omega, by omega⟩
        have hrp : sn_R (x + 1) := ⟨by omega, by omega⟩
        have hb1 : (0 : Int) ≤ x - 1 ∧ x - 1 < (100 : Nat) := ⟨by omega, by omega⟩
        have hbx : (0 : Int) ≤ x ∧ x < (100 : Nat) := ⟨by omega, by omega⟩
        have es : (x - 1).toNat = s := by omega
        have exs : x.toNat = s + 1 := by omega
        have ht : σ.1 45 0 (x - 1).toNat = (g : Int) := by rw [es]; exact hp
        have hbt : (0 : Int) ≤ σ.1 45 0 (x - 1).toNat ∧ σ.1 45 0 (x - 1).toNat < (80 : Nat) := by rw [ht]; omega
        have et : (σ.1 45 0 (x - 1).toNat).toNat = g := by rw [ht]; rfl
        obtain ⟨w1, w2, w3⟩ := hv.1 g hg
        have e1 : σ.1 41 0 (σ.1 45 0 (x - 1).toNat).toNat = T.1 0 g := by rw [et]; exact w1
        have e2 : σ.1 42 0 (σ.1 45 0 (x - 1).toNat).toNat = T.1 1 g := by rw [et]; exact w2
        have e3 : σ.1 43 0 (σ.1 45 0 (x - 1).toNat).toNat = T.1 2 g := by rw [et]; exact w3
        refine hG 160 [14] _ _ _ _ ?_
        refine And.intro (fun c1 => ?_) (fun _ => And.intro hrm (And.intro hb1 (And.intro rfl (And.intro ?_ (And.intro ?_ (fun d hd => And.intro hbt ?_))))))
        · have c1 : x ≤ 0 := c1
          omega
        · show 0 ≤ σ.1 40 0 1 ∧ σ.1 40 0 1 ≤ 80
          rw [hcnt]; omega
        · rw [en]
          exact tb_w_c hv.1 hT.1
        · rw [en] at hd
          have dd := mt_d hv hT hd
          have hvd : mt_v T (sn_ov σ 44 0 d) := hv
          have hgd : mt_g T (sn_ov σ 44 0 d) := fun g hg => dd g hg
          have hfd : mt_f σ (sn_ov σ 44 0 d) := ⟨rfl, fun a b c hn => sn_ov_n (fun z => hn (by omega))⟩
          have ed : d (σ.1 45 0 (x - 1).toNat).toNat = T.1 3 g := by rw [et]; exact dd g hg
          refine And.intro (fun c1 => ?_) (fun c1 => And.intro hrm (And.intro (fun z => absurd z (by decide)) (fun _ => ?_)))
          · have c1 : d (σ.1 45 0 (x - 1).toNat).toNat < 0 := c1
            rw [ed] at c1
            have hmake : ∀ (k l r : Int), dl_r T g → k = (if T.1 0 g = 0 then 0 else 3 - T.1 0 g) → l = (if T.1 0 g = 0 then T.1 1 g else T.1 3 (T.1 1 g).toNat) → r = (if T.1 0 g = 0 then 1 - T.1 2 g else T.1 3 (T.1 2 g).toNat) → (0 ≤ σ.1 40 0 1 ∧ σ.1 40 0 1 ≤ 80) ∧ ∀ y, fm_F (σ.1 41 0) (σ.1 42 0) (σ.1 43 0) (σ.1 40 0 1).toNat k l r y → (0 ≤ y → False) ∧ (y = -1 → σ.1 40 0 1 = 80 → post (some (.inl (-1))) (sn_u (sn_ov σ 44 0 d).1 40 0 1 (σ0.1 40 0 1), (sn_ov σ 44 0 d).2)) ∧ (y = -1 → σ.1 40 0 1 < 80 → ∀ o4 o5, G 14 [some (.inr (.inr (40, 0))), some (.inl (f : Int)), some (.inl (σ0.1 40 0 1)), some (.inl x), o4, o5] [] (md_add (sn_ov σ 44 0 d) k l r)) := by
              intro k l r hr ek el er
              obtain ⟨n1, -⟩ := dl_new hT hg c1 hr
              obtain ⟨b1, b2⟩ := hB c1 hr
              refine ⟨by rw [hcnt]; omega, fun y hy => ?_⟩
              rw [en] at hy
              refine ⟨fun z => ?_, fun _ z => ?_, fun _ z => ?_⟩
              · rcases fm_F_c (fun g hg => ⟨(hv.1 g hg).1.symm, (hv.1 g hg).2.1.symm, (hv.1 g hg).2.2.symm⟩) hy with ⟨z1, -⟩ | ⟨j, hj, -, hm⟩
                · omega
                · rw [ek, el, er] at hm
                  exact n1.2 j hj hm
              · exact b2 (by rw [hcnt] at z; omega) _ hvd hfd
              · refine b1 (by rw [hcnt] at z; omega) _ ?_ (mt_f_t hfd (mt_add_f _ _ _ _).1) (fun j => (mt_add_f _ _ _ _).2 j)
                rw [ek, el, er]
                exact mt_add hvd _ _ _ _
            refine And.intro hbt (And.intro (fun c2 => ?_) (fun c2 => ?_))
            · have c2 : σ.1 41 0 (σ.1 45 0 (x - 1).toNat).toNat = 0 := c2
              rw [e1] at c2
              rcases hT.1 g hg with ⟨-, -, hr2⟩ | ⟨z, -⟩
              · obtain ⟨q1, q2⟩ := hmake 0 (σ.1 42 0 (σ.1 45 0 (x - 1).toNat).toNat) (1 - σ.1 43 0 (σ.1 45 0 (x - 1).toNat).toNat) (fun z => absurd c2 z) (by rw [if_pos c2]) (by rw [if_pos c2, e2]) (by rw [if_pos c2, e3])
                refine And.intro hbt (And.intro hbt (And.intro ⟨by show -2147483648 ≤ 1 - σ.1 43 0 (σ.1 45 0 (x - 1).toNat).toNat; rw [e3]; omega, by show 1 - σ.1 43 0 (σ.1 45 0 (x - 1).toNat).toNat < 2147483648; rw [e3]; omega⟩ (And.intro rfl (And.intro q1 (fun y hy => ?_)))))
                obtain ⟨p1, p2, p3⟩ := q2 y hy
                refine And.intro (fun z => (p1 z).elim) (And.intro (fun z1 z2 => And.intro (fun _ => p2 z1 z2) (fun z => absurd z (by decide))) (fun z1 z2 => And.intro (fun z => ?_) (fun _ => p3 z1 z2 _ _)))
                have z : σ.1 40 0 1 < 0 := z
                rw [hcnt] at z
                omega
              · omega
            · have c2 : ¬ σ.1 41 0 (σ.1 45 0 (x - 1).toNat).toNat = 0 := c2
              rw [e1] at c2
              rcases hT.1 g hg with ⟨z, -⟩ | ⟨hk12, hl, hr⟩
              · exact absurd z c2
              · have bl : (0 : Int) ≤ σ.1 42 0 (σ.1 45 0 (x - 1).toNat).toNat ∧ σ.1 42 0 (σ.1 45 0 (x - 1).toNat).toNat < (80 : Nat) := by rw [e2]; omega
                have br : (0 : Int) ≤ σ.1 43 0 (σ.1 45 0 (x - 1).toNat).toNat ∧ σ.1 43 0 (σ.1 45 0 (x - 1).toNat).toNat < (80 : Nat) := by rw [e3]; omega
                have dL : d (σ.1 42 0 (σ.1 45 0 (x - 1).toNat).toNat).toNat = T.1 3 (T.1 1 g).toNat := by rw [e2]; exact dd _ (by omega)
                have dR : d (σ.1 43 0 (σ.1 45 0 (x - 1).toNat).toNat).toNat = T.1 3 (T.1 2 g).toNat := by rw [e3]; exact dd _ (by omega)
                have push : ∀ (v : Int) (r : Nat), (r : Int) = v → ((¬ T.1 0 g = 0 ∧ T.1 3 (T.1 1 g).toNat < 0 ∧ (r : Int) = T.1 1 g) ∨ (¬ T.1 0 g = 0 ∧ 0 ≤ T.1 3 (T.1 1 g).toNat ∧ T.1 3 (T.1 2 g).toNat < 0 ∧ (r : Int) = T.1 2 g)) → ∀ o4 o5, G 14 [some (.inr (.inr (40, 0))), some (.inl (f : Int)), some (.inl (σ0.1 40 0 1)), some (.inl (x + 1)), o4, o5] [] (sn_u (sn_ov σ 44 0 d).1 45 0 x.toNat v, (sn_ov σ 44 0 d).2) := by
                  intro v r hrv hcase
                  refine hC r (x + 1) _ hcase (by omega) hvd (mt_f_t hfd (sn_fr_u (mt_f_rf _) (by omega) _)) (fun j hj => ?_) ?_
                  · show sn_u (sn_ov σ 44 0 d).1 45 0 x.toNat v 45 0 j = _
                    rw [sn_u_at, if_neg (by omega)]
                    rfl
                  · show sn_u (sn_ov σ 44 0 d).1 45 0 x.toNat v 45 0 (s + 1) = _
                    rw [sn_u_at, if_pos (by omega), hrv]
                refine And.intro hbt (And.intro bl (And.intro (fun c3 => ?_) (fun c3 => And.intro hbt (And.intro br (And.intro (fun c4 => ?_) (fun c4 => ?_))))))
                · have c3 : d (σ.1 42 0 (σ.1 45 0 (x - 1).toNat).toNat).toNat < 0 := c3
                  rw [dL] at c3
                  refine And.intro hbt (And.intro hbx (And.intro hrp (And.intro (fun z => absurd z (by decide)) (fun _ => push _ (T.1 1 g).toNat (by show _ = σ.1 42 0 _; rw [e2]; omega) (Or.inl ⟨c2, c3, by omega⟩) _ _))))
                · have c3 : 0 ≤ d (σ.1 42 0 (σ.1 45 0 (x - 1).toNat).toNat).toNat := c3
                  rw [dL] at c3
                  have c4 : d (σ.1 43 0 (σ.1 45 0 (x - 1).toNat).toNat).toNat < 0 := c4
                  rw [dR] at c4
                  refine And.intro hbt (And.intro hbx (And.intro hrp (And.intro (fun z => absurd z (by decide)) (fun _ => push _ (T.1 2 g).toNat (by show _ = σ.1 43 0 _; rw [e3]; omega) (Or.inr ⟨c2, c3, c4, by omega⟩) _ _))))
                · have c3 : 0 ≤ d (σ.1 42 0 (σ.1 45 0 (x - 1).toNat).toNat).toNat := c3
                  rw [dL] at c3
                  have c4 : 0 ≤ d (σ.1 43 0 (σ.1 45 0 (x - 1).toNat).toNat).toNat := c4
                  rw [dR] at c4
                  obtain ⟨q1, q2⟩ := hmake (3 - σ.1 41 0 (σ.1 45 0 (x - 1).toNat).toNat) (d (σ.1 42 0 (σ.1 45 0 (x - 1).toNat).toNat).toNat) (d (σ.1 43 0 (σ.1 45 0 (x - 1).toNat).toNat).toNat) (fun _ => ⟨c3, c4⟩) (by rw [if_neg c2, e1]) (by rw [if_neg c2, dL]) (by rw [if_neg c2, dR])
                  refine And.intro hbt (And.intro ⟨by show -2147483648 ≤ 3 - σ.1 41 0 (σ.1 45 0 (x - 1).toNat).toNat; rw [e1]; omega, by show 3 - σ.1 41 0 (σ.1 45 0 (x - 1).toNat).toNat < 2147483648; rw [e1]; omega⟩ (And.intro hbt (And.intro bl (And.intro hbt (And.intro br (And.intro rfl (And.intro q1 (fun y hy => ?_))))))))
                  obtain ⟨p1, p2, p3⟩ := q2 y hy
                  refine And.intro (fun z => (p1 z).elim) (And.intro (fun z1 z2 => And.intro (fun _ => p2 z1 z2) (fun z => absurd z (by decide))) (fun z1 z2 => And.intro (fun z => ?_) (fun _ => p3 z1 z2 _ _)))
                  have z : σ.1 40 0 1 < 0 := z
                  rw [hcnt] at z
                  omega
          · have c1 : 0 ≤ d (σ.1 45 0 (x - 1).toNat).toNat := c1
            rw [ed] at c1
            exact hA c1 (x - 1) _ (by omega) hvd hgd hfd (fun _ => rfl) _ _
      have loop : ∀ (m g : Nat) (T T' : fT) (s : Nat) (x : Int) (σ : sn_M), dl m g T T' → g < m → fT_ok T → g < T.2 → T.2 ≤ 80 → dl_k T0 T → mt_v T σ → mt_f σ0 σ → σ.1 45 0 s = (g : Int) → s + g < 80 → x = (s : Int) + 1 → (T'.2 ≤ 80 ∨ 80 < T0'.2) →
          (T'.2 ≤ 80 → ∀ (σ' : sn_M) (y : Int), mt_v T' σ' → mt_g T' σ' → mt_f σ0 σ' → (∀ j, j ≤ s → σ'.1 45 0 j = σ.1 45 0 j) → y = (s : Int) → ∀ o4 o5, G 14 [some (.inr (.inr (40, 0))), some (.inl (f : Int)), some (.inl (σ0.1 40 0 1)), some (.inl y), o4, o5] [] σ') →
          ∀ o4 o5, G 14 [some (.inr (.inr (40, 0))), some (.inl (f : Int)), some (.inl (σ0.1 40 0 1)), some (.inl x), o4, o5] [] σ := by
        intro m
        induction m with
        | zero => intro g T T' s x σ _ hg; omega
        | succ m ih =>
          intro g T T' s x σ hd hm hT hg h80 hk0T hv hf hp hsg hx hor hk
          have fail : ∀ (T : fT) (σ σ' : sn_M), dl_k T0 T → 80 < T0'.2 → mt_f σ0 σ → mt_v T σ' → mt_f σ σ' → post (some (.inl (-1))) (sn_u σ'.1 40 0 1 (σ0.1 40 0 1), σ'.2) := by
            intro T σ σ' hk0T h81 hf hv' hf'
            have hle := hk0T.2.1
            refine hbad h81 _ ⟨fun g hg => ?_, ?_⟩ (sn_fr_u (mt_f_t hf hf') (by omega) _)
            · obtain ⟨a1, a2, a3⟩ := hv'.1 g (by omega)
              have b := hk0T.2.2.1
              refine ⟨?_, ?_, ?_⟩
              · exact a1.trans (b 0 g (by omega) hg)
              · exact a2.trans (b 1 g (by omega) hg)
              · exact a3.trans (b 2 g (by omega) hg)
            · show σ0.1 40 0 1 = _
              exact hv0.2
          by_cases hdg : 0 ≤ T.1 3 g
          · have e : T' = T := by
              rcases hd with ⟨-, z⟩ | ⟨z, -⟩ | ⟨z, -⟩
              · exact z
              · omega
              · omega
            subst e
            refine step T' g s x σ hv hT hg h80 hp hsg hx (fun _ y σ' ey a b c d => hk h80 σ' y a b (mt_f_t hf c) (fun j _ => d j) ey) (fun z => by omega) (fun r y σ' hr => ?_)
            exfalso
            have q1 : ¬ T'.1 0 g = 0 → ¬ (T'.1 3 (T'.1 1 g).toNat < 0 ∨ T'.1 3 (T'.1 2 g).toNat < 0) := fun hk0 z => by
              have := ((hT.2.2.1 g hg).2 hk0).1 z
              omega
            rcases hr with ⟨z, y, -⟩ | ⟨z, -, y, -⟩
            · exact q1 z (Or.inl y)
            · exact q1 z (Or.inr y)
          · have hdg : T.1 3 g < 0 := by omega
            -- one turn makes the dual, the next one goes on
            have ph3 : ∀ (T2 : fT) (σ' : sn_M), fT_ok T2 → dl_k T0 T2 → T2.2 ≤ 80 → g < T2.2 → T2.1 3 g < 0 → dl_r T2 g → T' = dl_a T2 g → mt_v T2 σ' → mt_f σ0 σ' → (∀ j, j ≤ s → σ'.1 45 0 j = σ.1 45 0 j) → ∀ o4 o5, G 14 [some (.inr (.inr (40, 0))), some (.inl (f : Int)), some (.inl (σ0.1 40 0 1)), some (.inl x), o4, o5] [] σ' := by
              intro T2 σ' hT2 hk2 h280 hg2 hd2 hr2 e a b c
              have en : T'.2 = T2.2 + 1 := by rw [e]; rfl
              refine step T2 g s x σ' a hT2 hg2 h280 (by rw [c s (by omega)]; exact hp) hsg hx (fun z => by omega) (fun _ _ => ⟨fun z σ'' a' b' c' => ?_, fun z σ'' a' b' => fail T2 σ' σ'' hk2 (by omega) b a' b'⟩) (fun r y σ'' hr => ?_)
              · rw [← e] at a'
                have kk := dl_k_a hT2 hg2 hd2 hr2
                rw [← e] at kk
                refine step T' g s x σ'' a' kk.1 (by omega) (by omega) (by rw [c' s, c s (by omega)]; exact hp) hsg hx (fun _ y σ3 ey a3 b3 c3 d3 => hk (by omega) σ3 y a3 b3 (mt_f_t b (mt_f_t b' c3)) (fun j hj => by rw [d3 j, c' j, c j hj]) ey) (fun z => ?_) (fun r y σ3 hr => ?_)
                · rw [e, dl_a_f] at z
                  omega
                · exfalso
                  have hq : 0 ≤ T'.1 3 g := by rw [e, dl_a_f]; omega
                  have q1 : ¬ T'.1 0 g = 0 → ¬ (T'.1 3 (T'.1 1 g).toNat < 0 ∨ T'.1 3 (T'.1 2 g).toNat < 0) := fun hk0 z => by
                    have := ((kk.1.2.2.1 g (by omega)).2 hk0).1 z
                    omega
                  rcases hr with ⟨z, y, -⟩ | ⟨z, -, y, -⟩
                  · exact q1 z (Or.inl y)
                  · exact q1 z (Or.inr y)
              · exfalso
                rcases hr with ⟨z, y, -⟩ | ⟨z, -, y, -⟩
                · have := (hr2 z).1; omega
                · have := (hr2 z).2; omega
            rcases hd with ⟨z, -⟩ | ⟨-, hk0, e⟩ | ⟨-, hk0, T1, T2, d1, d2, hd2, e⟩
            · omega
            · exact ph3 T σ hT hk0T h80 hg hdg (fun z => absurd hk0 z) e hv hf (fun _ _ => rfl)
            · obtain ⟨⟨k1, k2⟩, ⟨l1, r2⟩, ea, hlg, hrg⟩ := dl_mid hT hg (by omega) hk0 d1 d2
              have n1 := k1.2.1
              have n2 := k2.2.1
              have en : T'.2 = T2.2 + 1 := by rw [e]; rfl
              -- the right part
              have ph2 : ∀ (σ' : sn_M), T1.2 ≤ 80 → mt_v T1 σ' → mt_f σ0 σ' → (∀ j, j ≤ s → σ'.1 45 0 j = σ.1 45 0 j) → ∀ o4 o5, G 14 [some (.inr (.inr (40, 0))), some (.inl (f : Int)), some (.inl (σ0.1 40 0 1)), some (.inl x), o4, o5] [] σ' := by
                intro σ' h180 a b c
                by_cases hR0 : 0 ≤ T1.1 3 (T.1 2 g).toNat
                · have e21 : T2 = T1 := by
                    cases m with
                    | zero => exact d2.elim
                    | succ m =>
                      rcases d2 with ⟨-, z⟩ | ⟨z, -⟩ | ⟨z, -⟩
                      · exact z
                      · omega
                      · omega
                  rw [e21] at e hd2 r2
                  exact ph3 T1 σ' k1.1 (dl_k_t hk0T k1) h180 (by omega) hd2 r2 e a b c
                · have hR1 : T1.1 3 (T.1 2 g).toNat < 0 := by omega
                  have hd1 : T1.1 3 g < 0 := by
                    by_cases z : 0 ≤ T1.1 3 g
                    · have := k2.2.2.2.1 g (by omega) z
                      omega
                    · omega
                  refine step T1 g s x σ' a k1.1 (by omega) h180 (by rw [c s (by omega)]; exact hp) hsg hx (fun z => by omega) (fun _ hrr => ?_) (fun r y σ'' hr ey a' b' c' d' => ?_)
                  · exfalso
                    have q := (hrr (by rw [(ea 0 (by omega)).1]; exact hk0)).2
                    rw [(ea 2 (by omega)).1] at q
                    omega
                  · rw [(ea 0 (by omega)).1, (ea 1 (by omega)).1, (ea 2 (by omega)).1] at hr
                    rcases hr with ⟨-, z, -⟩ | ⟨-, -, -, er⟩
                    · omega
                    · have er : r = (T.1 2 g).toNat := by omega
                      subst er
                      refine ih (T.1 2 g).toNat T1 T2 (s + 1) y σ'' d2 (by omega) k1.1 (by omega) h180 (dl_k_t hk0T k1) a' (mt_f_t b b') d' (by omega) (by omega) (by omega) (fun h280 σ3 y3 a3 b3 c3 d3 ey3 => ?_)
                      have ey3 : y3 = x := by omega
                      rw [ey3]
                      exact ph3 T2 σ3 k2.1 (dl_k_t hk0T (dl_k_t k1 k2)) h280 (by omega) hd2 r2 e a3 c3 (fun j hj => by rw [d3 j (by omega), c' j hj, c j hj])
              by_cases hL0 : 0 ≤ T.1 3 (T.1 1 g).toNat
              · have e1 : T1 = T := by
                  cases m with
                  | zero => exact d1.elim
                  | succ m =>
                    rcases d1 with ⟨-, z⟩ | ⟨z, -⟩ | ⟨z, -⟩
                    · exact z
                    · omega
                    · omega
                rw [e1] at ph2
                exact ph2 σ h80 hv hf (fun _ _ => rfl)
              · have hL1 : T.1 3 (T.1 1 g).toNat < 0 := by omega
                refine step T g s x σ hv hT hg h80 hp hsg hx (fun z => by omega) (fun _ hrr => ?_) (fun r y σ'' hr ey a' b' c' d' => ?_)
                · exfalso
                  have q := (hrr hk0).1
                  omega
                · rcases hr with ⟨-, -, er⟩ | ⟨-, z, -⟩
                  · have er : r = (T.1 1 g).toNat := by omega
                    subst er
                    refine ih (T.1 1 g).toNat T T1 (s + 1) y σ'' d1 (by omega) hT (by omega) h80 hk0T a' (mt_f_t hf b') d' (by omega) (by omega) (by omega) (fun h180 σ3 y3 a3 b3 c3 d3 ey3 => ?_)
                    have ey3 : y3 = x := by omega
                    rw [ey3]
                    exact ph2 σ3 h180 a3 c3 (fun j hj => by rw [d3 j (by omega), c' j hj])
                  · omega
      have hb0 : (0 : Int) ≤ (0 : Int) ∧ (0 : Int) < (100 : Nat) := ⟨by omega, by omega⟩
      refine hG 60 [14] _ _ _ _ ?_
      refine And.intro hb0 ?_
      refine loop 80 f T0 T0' 0 1 (sn_u σ0.1 45 0 0 (f : Int), σ0.2) hdl (by omega) hT0 (by omega) hn80 ⟨hT0, Nat.le_refl _, fun _ _ _ _ => rfl, fun _ _ _ => rfl, fun g h1 h2 => by omega, rfl⟩ hv0 (sn_fr_u (mt_f_rf _) (by omega) _) rfl (by omega) (by omega) (by omega) (fun h80' σ' y a b c _ ey o4 o5 => ?_) none none
      have hb : (0 : Int) ≤ (f : Int) ∧ (f : Int) < (80 : Nat) := ⟨by omega, by omega⟩
      have hle := (dl_all hT0 (by omega) (by omega) hdl).1.2.1
      have e5 : post (some (.inl (σ'.1 44 0 f))) σ' := by
        rw [b f (by omega)]
        exact hgood h80' σ' a c
      subst ey
      refine hG 60 [14] _ _ _ _ ?_
      exact And.intro (fun _ => And.intro hb e5) (fun z => absurd z (by decide))
    · exact h.elim
