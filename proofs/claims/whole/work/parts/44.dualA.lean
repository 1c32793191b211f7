/-! Tables of formulas, duals in them; the reference's findDuals and make. -/
def tb_w (K L R : Nat → Int) (n : Nat) : Prop := ∀ f : Nat, f < n → (K f = 0 ∧ (0 ≤ L f ∧ L f < 8) ∧ (R f = 0 ∨ R f = 1)) ∨ ((K f = 1 ∨ K f = 2) ∧ (0 ≤ L f ∧ L f < (f : Int)) ∧ (0 ≤ R f ∧ R f < (f : Int)))
def tb_u (K L R : Nat → Int) (n : Nat) : Prop := ∀ f g : Nat, f < n → g < n → K f = K g → L f = L g → R f = R g → f = g
def dp_at (K L R : Nat → Int) (n : Nat) (d : Nat → Int) (f : Nat) : Prop := (K f = 0 → fm_F K L R n 0 (L f) (1 - R f) (d f)) ∧ (¬ K f = 0 → ((d (L f).toNat < 0 ∨ d (R f).toNat < 0) → d f = -1) ∧ (0 ≤ d (L f).toNat → 0 ≤ d (R f).toNat → fm_F K L R n (3 - K f) (d (L f).toNat) (d (R f).toNat) (d f)))
def dp_ok (K L R : Nat → Int) (n : Nat) (d : Nat → Int) : Prop := ∀ f, f < n → dp_at K L R n d f
theorem fm_F_u {K L R : Nat → Int} {n : Nat} (hu : tb_u K L R n) {k l r x y : Int} (hx : fm_F K L R n k l r x) (hy : fm_F K L R n k l r y) : x = y := by
  rcases hx with ⟨rfl, hx⟩ | ⟨a, ha, rfl, a1, a2, a3⟩
  · rcases hy with ⟨rfl, -⟩ | ⟨c, hc, rfl, hm⟩
    · rfl
    · exact absurd hm (hx c hc)
  · rcases hy with ⟨rfl, hy⟩ | ⟨c, hc, rfl, c1, c2, c3⟩
    · exact absurd ⟨a1, a2, a3⟩ (hy a ha)
    · rw [hu a c ha hc (a1.trans c1.symm) (a2.trans c2.symm) (a3.trans c3.symm)]
theorem fm_F_b {K L R : Nat → Int} {n : Nat} {k l r x : Int} (hx : fm_F K L R n k l r x) : -1 ≤ x ∧ x < (n : Int) := by
  rcases hx with ⟨rfl, -⟩ | ⟨a, ha, rfl, -⟩ <;> omega
theorem dp_b {K L R : Nat → Int} {n : Nat} {d : Nat → Int} {f : Nat} (h : dp_at K L R n d f) : -1 ≤ d f ∧ d f < (n : Int) := by
  by_cases hk : K f = 0
  · exact fm_F_b (h.1 hk)
  · obtain ⟨h1, h2⟩ := h.2 hk
    by_cases hd : d (L f).toNat < 0 ∨ d (R f).toNat < 0
    · rw [h1 hd]; omega
    · exact fm_F_b (h2 (by omega) (by omega))
/-- there is one way to say which formulas are dual -/
theorem dp_u {K L R : Nat → Int} {n : Nat} (hw : tb_w K L R n) (hu : tb_u K L R n) {d d' : Nat → Int} (h : dp_ok K L R n d) (h' : dp_ok K L R n d') : ∀ f, f < n → d f = d' f := by
  intro f
  induction f using Nat.strongRecOn with
  | ind f ih =>
    intro hf
    rcases hw f hf with ⟨hk, -, -⟩ | ⟨hk, hl, hr⟩
    · exact fm_F_u hu ((h f hf).1 hk) ((h' f hf).1 hk)
    · have hk0 : ¬ K f = 0 := by omega
      have el := ih (L f).toNat (by omega) (by omega)
      have er := ih (R f).toNat (by omega) (by omega)
      obtain ⟨a1, a2⟩ := (h f hf).2 hk0
      obtain ⟨b1, b2⟩ := (h' f hf).2 hk0
      by_cases hd : d (L f).toNat < 0 ∨ d (R f).toNat < 0
      · rw [a1 hd, b1 (by rw [← el, ← er]; exact hd)]
      · have q := b2 (by rw [← el]; omega) (by rw [← er]; omega)
        rw [← el, ← er] at q
        exact fm_F_u hu (a2 (by omega) (by omega)) q
def sp_MD_findDuals : sn_P := fun vs σ po => match vs with
  | [.inr (.inr q)] => q = (40, 0) ∧ (0 ≤ σ.1 40 0 1 ∧ σ.1 40 0 1 ≤ 80) ∧ tb_w (σ.1 41 0) (σ.1 42 0) (σ.1 43 0) (σ.1 40 0 1).toNat ∧ ∀ d : Nat → Int, dp_ok (σ.1 41 0) (σ.1 42 0) (σ.1 43 0) (σ.1 40 0 1).toNat d → po none (sn_ov σ 44 0 d)
  | _ => False
def ca_MD_findDuals : List (Nat × Nat × Nat × sn_P) := [(90, 4, 8, sp_MD_find)]
theorem co_MD_findDuals : ∀ x n ci s', sn_lk ca_MD_findDuals x = some (n, ci, s') → sn_CO "SwitchedNetsModel" sn_ws 1 x n ci s' := sn_co_of (List.forall_mem_cons.mpr ⟨sn_CO_V ("SwitchedNetsModel", T_MD, 29) ct_MD_find (by decide) (by decide) (sn_gV ml_MD_90 mi_MD_find ms_MD_find mz_MD mc_MD_find) (by decide) rfl rfl ⟨nh_MD.1, nh_MD.2, pn_MD_find⟩, fun _ h => absurd h List.not_mem_nil⟩)
theorem ct_MD_findDuals : sn_CT y_MD_findDuals ws_MD_findDuals 1 sp_MD_findDuals := by
  refine sn_CT_of (pr := pr_MD_findDuals) (fi := (sn_lk ft_MD)) (lc := (sn_lk lc_MD)) (ca := sn_lk ca_MD_findDuals) pl_MD ?_ pk_MD_findDuals FI_MD LC_MD co_MD_findDuals ?_
  · intro vs σ post h
    unfold sp_MD_findDuals at h
    split at h
    · exact Nat.le_of_ble_eq_true rfl
    · exact h.elim
  · intro vs σ post h hvs hR
    unfold sp_MD_findDuals at h
    split at h
    · next q =>
      obtain ⟨rfl, ⟨hn0, hn1⟩, hw, h⟩ := h
      intro G hG
      obtain ⟨n, hn⟩ := Int.eq_ofNat_of_zero_le hn0
      have en : (σ.1 40 0 1).toNat = n := by rw [hn]; rfl
      rw [en] at hw h
      have hcnt : 0 ≤ σ.1 40 0 1 ∧ σ.1 40 0 1 ≤ 80 := ⟨hn0, hn1⟩
      have loop : ∀ (m f : Nat) (d : Nat → Int) (o2 o3 : Option sn_V), n - f = m → f ≤ n → (∀ g, g < f → dp_at (σ.1 41 0) (σ.1 42 0) (σ.1 43 0) n d g) → G 2 [some (.inr (.inr (40, 0))), some (.inl (f : Int)), o2, o3] [] (sn_ov σ 44 0 d) := by
        intro m
        induction m with
        | zero =>
          intro f d o2 o3 hm hf hd
          have e : f = n := by omega
          subst e
          refine hG 90 [2] _ _ _ _ ?_
          refine And.intro (fun c1 => ?_) (fun _ => h d hd)
          have c1 : (f : Int) < σ.1 40 0 1 := c1
          omega
        | succ m ih =>
          intro f d o2 o3 hm hf hd
          have hfn : f < n := by omega
          have hr : sn_R ((f : Int) + 1) := ⟨by omega, by omega⟩
          have hb : (0 : Int) ≤ (f : Int) ∧ (f : Int) < (80 : Nat) := ⟨by omega, by omega⟩
          have go : ∀ (x : Int) (o2 o3 : Option sn_V), dp_at (σ.1 41 0) (σ.1 42 0) (σ.1 43 0) n (sn_up d f x) f → G 2 [some (.inr (.inr (40, 0))), some (.inl ((f : Int) + 1)), o2, o3] [] (sn_u (sn_ov σ 44 0 d).1 44 0 f x, (sn_ov σ 44 0 d).2) := by
            intro x o2 o3 hx
            rw [sn_ov_u]
            refine ih (f + 1) (sn_up d f x) o2 o3 (by omega) (by omega) (fun g hg => ?_)
            by_cases e : g = f
            · subst e; exact hx
            · have hgf : g < f := by omega
              have h1 := hd g hgf
              have eg : sn_up d f x g = d g := by unfold sn_up; rw [if_neg e]
              rcases hw g (by omega) with ⟨hk, -, -⟩ | ⟨hk, hl, hr2⟩
              · refine ⟨fun z => by rw [eg]; exact h1.1 z, fun z => absurd hk z⟩
              · have el : sn_up d f x (σ.1 42 0 g).toNat = d (σ.1 42 0 g).toNat := by unfold sn_up; rw [if_neg (by omega)]
                have er : sn_up d f x (σ.1 43 0 g).toNat = d (σ.1 43 0 g).toNat := by unfold sn_up; rw [if_neg (by omega)]
                unfold dp_at
                rw [eg, el, er]
                exact h1
          have es : ∀ x : Int, sn_up d f x f = x := fun x => by unfold sn_up; rw [if_pos rfl]
          refine hG 90 [2] _ _ _ _ ?_
          refine And.intro (fun c1 => And.intro hb (And.intro (fun c2 => ?_) (fun c2 => ?_))) (fun c1 => ?_)
          · have c2 : σ.1 41 0 f = 0 := c2
            rcases hw f hfn with ⟨hk, hl, hr2⟩ | ⟨hk, -, -⟩
            · refine And.intro hb (And.intro hb (And.intro ⟨by show -2147483648 ≤ 1 - σ.1 43 0 f; omega, by show 1 - σ.1 43 0 f < 2147483648; omega⟩ (And.intro rfl (And.intro hcnt (fun x hx => And.intro hb (And.intro hr (go x _ _ ?_)))))))
              have hx : fm_F (σ.1 41 0) (σ.1 42 0) (σ.1 43 0) (σ.1 40 0 1).toNat 0 (σ.1 42 0 f) (1 - σ.1 43 0 f) x := hx
              rw [en] at hx
              exact ⟨fun _ => by rw [es]; exact hx, fun z => absurd c2 z⟩
            · omega
          · have c2 : ¬ σ.1 41 0 f = 0 := c2
            rcases hw f hfn with ⟨hk, -, -⟩ | ⟨hk, ⟨hl0, hl1⟩, ⟨hr0, hr1⟩⟩
            · exact absurd hk c2
            · have bl : (0 : Int) ≤ σ.1 42 0 f ∧ σ.1 42 0 f < (80 : Nat) := ⟨hl0, by omega⟩
              have br : (0 : Int) ≤ σ.1 43 0 f ∧ σ.1 43 0 f < (80 : Nat) := ⟨hr0, by omega⟩
              have el : ∀ x, sn_up d f x (σ.1 42 0 f).toNat = d (σ.1 42 0 f).toNat := fun x => by unfold sn_up; rw [if_neg (by omega)]
              have er : ∀ x, sn_up d f x (σ.1 43 0 f).toNat = d (σ.1 43 0 f).toNat := fun x => by unfold sn_up; rw [if_neg (by omega)]
              refine And.intro hb (And.intro bl (And.intro hb (And.intro br (And.intro (fun c3 => And.intro hb (And.intro hr (go (-1) _ _ ?_))) (fun c3 => And.intro (fun c4 => And.intro hb (And.intro hr (go (-1) _ _ ?_))) (fun c4 => And.intro hb (And.intro ⟨by show -2147483648 ≤ 3 - σ.1 41 0 f; omega, by show 3 - σ.1 41 0 f < 2147483648; omega⟩ (And.intro rfl (And.intro hcnt (fun x hx => And.intro hb (And.intro hr (go x _ _ ?_))))))))))))
              · have c3 : d (σ.1 42 0 f).toNat < 0 := c3
                refine ⟨fun z => absurd z c2, fun _ => ⟨fun _ => es _, fun z => ?_⟩⟩
                rw [el] at z
                omega
              · have c4 : d (σ.1 43 0 f).toNat < 0 := c4
                refine ⟨fun z => absurd z c2, fun _ => ⟨fun _ => es _, fun _ z => ?_⟩⟩
                rw [er] at z
                omega
              · have c3 : 0 ≤ d (σ.1 42 0 f).toNat := c3
                have c4 : 0 ≤ d (σ.1 43 0 f).toNat := c4
                have hx : fm_F (σ.1 41 0) (σ.1 42 0) (σ.1 43 0) (σ.1 40 0 1).toNat (3 - σ.1 41 0 f) (d (σ.1 42 0 f).toNat) (d (σ.1 43 0 f).toNat) x := hx
                rw [en] at hx
                refine ⟨fun z => absurd z c2, fun _ => ⟨fun z => ?_, fun _ _ => ?_⟩⟩
                · rw [el, er] at z
                  omega
                · rw [el, er, es]
                  exact hx
          · have c1 : σ.1 40 0 1 ≤ (f : Int) := c1
            omega
      refine hG 90 [2] _ _ _ _ ?_
      have g := loop n 0 (σ.1 44 0) none none (by omega) (by omega) (fun g hg => by omega)
      rw [sn_ov_rf] at g
      exact g
    · exact h.elim
/-- one formula more in the reference -/
def md_add (σ : sn_M) (k l r : Int) : sn_M := (sn_u (sn_u (sn_u (sn_u σ.1 41 0 (σ.1 40 0 1).toNat k) 42 0 (σ.1 40 0 1).toNat l) 43 0 (σ.1 40 0 1).toNat r) 40 0 1 (σ.1 40 0 1 + 1), σ.2)
def sp_MD_make : sn_P := fun vs σ po => match vs with
  | [.inr (.inr q), .inl k, .inl l, .inl r] => q = (40, 0) ∧ (0 ≤ σ.1 40 0 1 ∧ σ.1 40 0 1 ≤ 80) ∧ ∀ x, fm_F (σ.1 41 0) (σ.1 42 0) (σ.1 43 0) (σ.1 40 0 1).toNat k l r x → (0 ≤ x → po (some (.inl x)) σ) ∧ (x = -1 → σ.1 40 0 1 = 80 → po (some (.inl (-1))) σ) ∧ (x = -1 → σ.1 40 0 1 < 80 → po (some (.inl (σ.1 40 0 1))) (md_add σ k l r))
  | _ => False
def ca_MD_make : List (Nat × Nat × Nat × sn_P) := [(90, 4, 8, sp_MD_find)]
theorem co_MD_make : ∀ x n ci s', sn_lk ca_MD_make x = some (n, ci, s') → sn_CO "SwitchedNetsModel" sn_ws 1 x n ci s' := sn_co_of (List.forall_mem_cons.mpr ⟨sn_CO_V ("SwitchedNetsModel", T_MD, 29) ct_MD_find (by decide) (by decide) (sn_gV ml_MD_90 mi_MD_find ms_MD_find mz_MD mc_MD_find) (by decide) rfl rfl ⟨nh_MD.1, nh_MD.2, pn_MD_find⟩, fun _ h => absurd h List.not_mem_nil⟩)
theorem ct_MD_make : sn_CT y_MD_make ws_MD_make 1 sp_MD_make := by
  refine sn_CT_of (pr := pr_MD_make) (fi := (sn_lk ft_MD)) (lc := (sn_lk lc_MD)) (ca := sn_lk ca_MD_make) pl_MD ?_ pk_MD_make FI_MD LC_MD co_MD_make ?_
  · intro vs σ post h
    unfold sp_MD_make at h
    split at h
    · exact Nat.le_of_ble_eq_true rfl
    · exact h.elim
  · intro vs σ post h hvs hR
    unfold sp_MD_make at h
    split at h
    · next q k l r =>
      obtain ⟨rfl, ⟨hn0, hn1⟩, h⟩ := h
      intro G hG
      refine hG 90 [] _ _ _ _ ?_
      refine And.intro rfl (And.intro ⟨hn0, hn1⟩ (fun x hx => ?_))
      obtain ⟨h1, h2, h3⟩ := h x hx
      have hxb := fm_F_b hx
      refine And.intro (fun c1 => And.intro (fun c2 => ?_) (fun c2 => ?_)) (fun c1 => h1 c1)
      · have c2 : σ.1 40 0 1 < 80 := c2
        have hb : (0 : Int) ≤ σ.1 40 0 1 ∧ σ.1 40 0 1 < (80 : Nat) := ⟨hn0, by omega⟩
        refine And.intro hb (And.intro hb (And.intro hb (And.intro ⟨by show -2147483648 ≤ σ.1 40 0 1 + 1; omega, by show σ.1 40 0 1 + 1 < 2147483648; omega⟩ ?_)))
        exact h3 (by have c1 : x < 0 := c1; omega) c2
      · have c2 : 80 ≤ σ.1 40 0 1 := c2
        have c1 : x < 0 := c1
        have e : x = -1 := by omega
        have g := h2 e (by omega)
        rw [← e] at g
        exact g
    · exact h.elim
