/-! The class's tables of formulas: findDual, add, addDual, partWithoutDual. -/
theorem sn_u_at {α : Type} (f : Nat → Nat → Nat → α) (k i j : Nat) (x : α) (j' : Nat) : sn_u f k i j x k i j' = if j' = j then x else f k i j' := by
  unfold sn_u
  by_cases h : j' = j
  · rw [if_pos ⟨rfl, rfl, h⟩, if_pos h]
  · rw [if_neg (fun z => h z.2.2), if_neg h]
theorem sn_u_rs (f : Nat → Nat → Nat → Int) (k i j : Nat) (x : Int) : sn_u f k i j x k i = sn_up (f k i) j x := by
  funext j'
  exact sn_u_at f k i j x j'
theorem sn_u_rk {α : Type} {f : Nat → Nat → Nat → α} {k i j : Nat} {x : α} {k' i' : Nat} (h : k' ≠ k) : sn_u f k i j x k' i' = f k' i' := by
  funext j'
  unfold sn_u
  rw [if_neg (fun z => h z.1)]
def fo_v (T : fT) (σ : sn_M) : Prop := (σ.1 2 0 = T.1 0 ∧ σ.1 3 0 = T.1 1 ∧ σ.1 4 0 = T.1 2 ∧ σ.1 5 0 = T.1 3 ∧ σ.1 6 0 = T.1 4) ∧ σ.1 1 0 7 = (T.2 : Int)
def fo_f (σ σ' : sn_M) : Prop := sn_fr (fun a _ _ => 1 ≤ a ∧ a ≤ 6) σ σ'
theorem fo_f_rf (σ : sn_M) : fo_f σ σ := ⟨rfl, fun _ _ _ _ => rfl⟩
theorem fo_f_u {σ σ' : sn_M} (h : fo_f σ σ') {k i j : Nat} (hk : 1 ≤ k ∧ k ≤ 6) (x : Int) : fo_f σ (sn_u σ'.1 k i j x, σ'.2) := sn_fr_u h hk x
def dy_is (K L R : Nat → Int) (n : Nat) (d : Nat → Int) (f : Nat) (x : Int) : Prop := (K f = 0 → fm_F K L R n 0 (L f) (1 - R f) x) ∧ (¬ K f = 0 → ((d (L f).toNat = -1 ∨ d (R f).toNat = -1) → x = -1) ∧ (¬ d (L f).toNat = -1 → ¬ d (R f).toNat = -1 → fm_F K L R n (3 - K f) (d (L f).toNat) (d (R f).toNat) x))
def dy_w (K L R : Nat → Int) (f : Nat) : Prop := (K f = 0 ∧ (R f = 0 ∨ R f = 1)) ∨ ((K f = 1 ∨ K f = 2) ∧ (0 ≤ L f ∧ L f < 80) ∧ (0 ≤ R f ∧ R f < 80))
def sp_FO_findDual : sn_P := fun vs σ po => match vs with
  | [.inr (.inr q), .inl f] => q = (1, 0) ∧ (0 ≤ σ.1 1 0 7 ∧ σ.1 1 0 7 ≤ 80) ∧ (0 ≤ f ∧ f < 80) ∧ dy_w (σ.1 2 0) (σ.1 3 0) (σ.1 4 0) f.toNat ∧ ∀ x, dy_is (σ.1 2 0) (σ.1 3 0) (σ.1 4 0) (σ.1 1 0 7).toNat (σ.1 5 0) f.toNat x → po (some (.inl x)) σ
  | _ => False
def ca_FO_findDual : List (Nat × Nat × Nat × sn_P) := [(38, 4, 1, sp_FO_find), (65, 1, 0, sp_FO_otherKind)]
theorem co_FO_findDual : ∀ x n ci s', sn_lk ca_FO_findDual x = some (n, ci, s') → sn_CO "SwitchedNets$Formulas" sn_ws 1 x n ci s' := sn_co_of (List.forall_mem_cons.mpr ⟨sn_CO_V ("SwitchedNets$Formulas", T_FO, 8) ct_FO_find (by decide) (by decide) (sn_gV ml_FO_38 mi_FO_find ms_FO_find mz_FO mc_FO_find) (by decide) rfl rfl ⟨nh_FO.1, nh_FO.2, pn_FO_find⟩, List.forall_mem_cons.mpr ⟨sn_CO_S ct_FO_otherKind (by decide) (by decide) (sn_gS ml_FO_65 mt_FO_otherKind mz_FO mc_FO_otherKind) ⟨nh_FO.1, nh_FO.2, pn_FO_otherKind⟩, fun _ h => absurd h List.not_mem_nil⟩⟩)
theorem ct_FO_findDual : sn_CT y_FO_findDual ws_FO_findDual 1 sp_FO_findDual := by
  refine sn_CT_of (pr := pr_FO_findDual) (fi := (sn_lk ft_FO)) (lc := sn_no) (ca := sn_lk ca_FO_findDual) pl_FO ?_ pk_FO_findDual FI_FO (sn_no_ok _) co_FO_findDual ?_
  · intro vs σ post h
    unfold sp_FO_findDual at h
    split at h
    · exact Nat.le_of_ble_eq_true rfl
    · exact h.elim
  · intro vs σ post h hvs hR
    unfold sp_FO_findDual at h
    split at h
    · next q f =>
      obtain ⟨rfl, hn, ⟨hf0, hf1⟩, hw, h⟩ := h
      intro G hG
      have hb : (0 : Int) ≤ f ∧ f < (80 : Nat) := ⟨hf0, by omega⟩
      refine hG 90 [] _ _ _ _ ?_
      refine And.intro hb (And.intro (fun c1 => ?_) (fun c1 => ?_))
      · have c1 : σ.1 2 0 f.toNat = 0 := c1
        rcases hw with ⟨-, hr⟩ | ⟨hk, -⟩
        · refine And.intro hb (And.intro hb (And.intro ⟨by show -2147483648 ≤ 1 - σ.1 4 0 f.toNat; omega, by show 1 - σ.1 4 0 f.toNat < 2147483648; omega⟩ (And.intro rfl (And.intro hn (fun x hx => ?_)))))
          exact h x ⟨fun _ => hx, fun z => absurd c1 z⟩
        · omega
      · have c1 : ¬ σ.1 2 0 f.toNat = 0 := c1
        rcases hw with ⟨z, -⟩ | ⟨hk, ⟨hl0, hl1⟩, ⟨hr0, hr1⟩⟩
        · exact absurd z c1
        · have bl : (0 : Int) ≤ σ.1 3 0 f.toNat ∧ σ.1 3 0 f.toNat < (80 : Nat) := ⟨hl0, by omega⟩
          have br : (0 : Int) ≤ σ.1 4 0 f.toNat ∧ σ.1 4 0 f.toNat < (80 : Nat) := ⟨hr0, by omega⟩
          refine And.intro hb (And.intro bl (And.intro hb (And.intro br (And.intro (fun c2 => ?_) (fun c2 => And.intro (fun c3 => ?_) (fun c3 => And.intro hb ?_))))))
          · exact h (-1) ⟨fun z => absurd z c1, fun _ => ⟨fun _ => rfl, fun z _ => absurd c2 z⟩⟩
          · exact h (-1) ⟨fun z => absurd z c1, fun _ => ⟨fun _ => rfl, fun _ z => absurd c3 z⟩⟩
          · intro G2
            refine And.intro (fun c4 => And.intro rfl (And.intro hn (fun x hx => ?_))) (fun c4 => And.intro rfl (And.intro hn (fun x hx => ?_)))
            · have c4 : σ.1 2 0 f.toNat = 1 := c4
              refine h x ⟨fun z => absurd z c1, fun _ => ⟨fun z => ?_, fun _ _ => by rw [c4]; exact hx⟩⟩
              rcases z with z | z
              · exact absurd z c2
              · exact absurd z c3
            · have c4 : ¬ σ.1 2 0 f.toNat = 1 := c4
              have c5 : σ.1 2 0 f.toNat = 2 := by omega
              refine h x ⟨fun z => absurd z c1, fun _ => ⟨fun z => ?_, fun _ _ => by rw [c5]; exact hx⟩⟩
              rcases z with z | z
              · exact absurd z c2
              · exact absurd z c3
    · exact h.elim
def sp_FO_add : sn_P := fun vs σ po => match vs with
  | [.inr (.inr q), .inl k, .inl l, .inl r] => q = (1, 0) ∧ ∃ T : fT, fo_v T σ ∧ fT_ok T ∧ T.2 < 80 ∧ tb_new (T.1 0) (T.1 1) (T.1 2) T.2 k l r ∧ ∀ x σ', dx_is (T.1 0) (T.1 1) (T.1 2) T.2 (T.1 3) k l r x → fo_v (fT_add T k l r x) σ' → fo_f σ σ' → po (some (.inl (T.2 : Int))) σ'
  | _ => False
def fo_m5 (σ : sn_M) (n : Nat) (c k l r o : Int) : sn_M := (sn_u (sn_u (sn_u (sn_u (sn_u σ.1 1 0 7 c) 2 0 n k) 3 0 n l) 4 0 n r) 6 0 n o, σ.2)
def fo_m4 (σ : sn_M) (n : Nat) (c k l r : Int) : Nat → Nat → Nat → Int := sn_u (sn_u (sn_u (sn_u σ.1 1 0 7 c) 2 0 n k) 3 0 n l) 4 0 n r
theorem fm_F_back {K L R : Nat → Int} {n : Nat} {k l r a b c x : Int} (h : fm_F (sn_up K n k) (sn_up L n l) (sn_up R n r) (n + 1) a b c x) (hno : ¬ (k = a ∧ l = b ∧ r = c)) : fm_F K L R n a b c x := by
  rcases h with ⟨h1, h2⟩ | ⟨j, hj, h1, h2⟩
  · exact Or.inl ⟨h1, fun j hj z => h2 j (by omega) ((fm_M_lt hj).mpr z)⟩
  · by_cases e : j = n
    · subst e
      exact absurd (fm_M_eq.mp h2) hno
    · exact Or.inr ⟨j, by omega, h1, (fm_M_lt (by omega)).mp h2⟩
def ca_FO_add : List (Nat × Nat × Nat × sn_P) := [(56, 2, 0, sp_min), (62, 2, 1, sp_FO_findDual)]
theorem co_FO_add : ∀ x n ci s', sn_lk ca_FO_add x = some (n, ci, s') → sn_CO "SwitchedNets$Formulas" sn_ws 2 x n ci s' := sn_co_of (List.forall_mem_cons.mpr ⟨sn_CO_min (by decide) ml_FO_56 mt_min mz_min mc_min, List.forall_mem_cons.mpr ⟨sn_CO_V ("SwitchedNets$Formulas", T_FO, 8) ct_FO_findDual (by decide) (by decide) (sn_gV ml_FO_62 mi_FO_findDual ms_FO_findDual mz_FO mc_FO_findDual) (by decide) rfl rfl ⟨nh_FO.1, nh_FO.2, pn_FO_findDual⟩, fun _ h => absurd h List.not_mem_nil⟩⟩)
theorem ct_FO_add : sn_CT y_FO_add ws_FO_add 2 sp_FO_add := by
  refine sn_CT_of (pr := pr_FO_add) (fi := (sn_lk ft_FO)) (lc := sn_no) (ca := sn_lk ca_FO_add) pl_FO ?_ pk_FO_add FI_FO (sn_no_ok _) co_FO_add ?_
  · intro vs σ post h
    unfold sp_FO_add at h
    split at h
    · exact Nat.le_of_ble_eq_true rfl
    · exact h.elim
  · intro vs σ post h hvs hR
    unfold sp_FO_add at h
    split at h
    · next q k l r =>
      obtain ⟨rfl, T, ⟨⟨v0, v1, v2, v3, v4⟩, vn⟩, hT, h80, hnew, h⟩ := h
      intro G hG
      have ho := oc_b hT.1 hT.2.2.2.2
      have hdp := hT.2.2.1
      have en : (σ.1 1 0 7).toNat = T.2 := by rw [vn]; rfl
      have hb : (0 : Int) ≤ σ.1 1 0 7 ∧ σ.1 1 0 7 < (80 : Nat) := by rw [vn]; omega
      have fin : ∀ o : Int, (o = if k = 0 then 1 else oc_mn (T.1 4 l.toNat) (T.1 4 r.toNat)) → sp_FO_findDual [.inr (.inr (1, 0)), .inl (σ.1 1 0 7)] (fo_m5 σ (σ.1 1 0 7).toNat (σ.1 1 0 7 + 1) k l r o) (fun v σ' => match v with
        | some (.inl x) => (0 ≤ σ.1 1 0 7 ∧ σ.1 1 0 7 < (80 : Nat)) ∧ (0 ≤ σ.1 1 0 7 ∧ σ.1 1 0 7 < (80 : Nat)) ∧ (sn_u σ'.1 5 0 (σ.1 1 0 7).toNat x 5 0 (σ.1 1 0 7).toNat = -1 → post (some (.inl (σ.1 1 0 7))) (sn_u σ'.1 5 0 (σ.1 1 0 7).toNat x, σ'.2)) ∧ (¬ sn_u σ'.1 5 0 (σ.1 1 0 7).toNat x 5 0 (σ.1 1 0 7).toNat = -1 → (0 ≤ σ.1 1 0 7 ∧ σ.1 1 0 7 < (80 : Nat)) ∧ (0 ≤ sn_u σ'.1 5 0 (σ.1 1 0 7).toNat x 5 0 (σ.1 1 0 7).toNat ∧ sn_u σ'.1 5 0 (σ.1 1 0 7).toNat x 5 0 (σ.1 1 0 7).toNat < (80 : Nat)) ∧ post (some (.inl (σ.1 1 0 7))) (sn_u (sn_u σ'.1 5 0 (σ.1 1 0 7).toNat x) 5 0 (sn_u σ'.1 5 0 (σ.1 1 0 7).toNat x 5 0 (σ.1 1 0 7).toNat).toNat (σ.1 1 0 7), σ'.2))
        | _ => False) := by
        intro o eo
        rw [en]
        have r1 : (fo_m5 σ T.2 (σ.1 1 0 7 + 1) k l r o).1 1 0 7 = (T.2 : Int) + 1 := by rw [← vn]; rfl
        have r2 : (fo_m5 σ T.2 (σ.1 1 0 7 + 1) k l r o).1 2 0 = sn_up (T.1 0) T.2 k := by
          unfold fo_m5
          dsimp only
          rw [sn_u_rk (by omega), sn_u_rk (by omega), sn_u_rk (by omega), sn_u_rs, sn_u_rk (by omega), v0]
        have r3 : (fo_m5 σ T.2 (σ.1 1 0 7 + 1) k l r o).1 3 0 = sn_up (T.1 1) T.2 l := by
          unfold fo_m5
          dsimp only
          rw [sn_u_rk (by omega), sn_u_rk (by omega), sn_u_rs, sn_u_rk (by omega), sn_u_rk (by omega), v1]
        have r4 : (fo_m5 σ T.2 (σ.1 1 0 7 + 1) k l r o).1 4 0 = sn_up (T.1 2) T.2 r := by
          unfold fo_m5
          dsimp only
          rw [sn_u_rk (by omega), sn_u_rs, sn_u_rk (by omega), sn_u_rk (by omega), sn_u_rk (by omega), v2]
        have r5 : (fo_m5 σ T.2 (σ.1 1 0 7 + 1) k l r o).1 5 0 = T.1 3 := by
          unfold fo_m5
          dsimp only
          rw [sn_u_rk (by omega), sn_u_rk (by omega), sn_u_rk (by omega), sn_u_rk (by omega), sn_u_rk (by omega), v3]
        have r6 : (fo_m5 σ T.2 (σ.1 1 0 7 + 1) k l r o).1 6 0 = sn_up (T.1 4) T.2 o := by
          unfold fo_m5
          dsimp only
          rw [sn_u_rs, sn_u_rk (by omega), sn_u_rk (by omega), sn_u_rk (by omega), sn_u_rk (by omega), v4]
        have fr : fo_f σ (fo_m5 σ T.2 (σ.1 1 0 7 + 1) k l r o) := fo_f_u (fo_f_u (fo_f_u (fo_f_u (fo_f_u (fo_f_rf σ) (by omega) _) (by omega) _) (by omega) _) (by omega) _) (by omega) _
        generalize fo_m5 σ T.2 (σ.1 1 0 7 + 1) k l r o = τ at *
        refine ⟨rfl, by rw [r1]; omega, ⟨by omega, by omega⟩, ?_, fun x hx => ?_⟩
        · unfold dy_w
          rw [r2, r3, r4, en, sn_up_at, sn_up_at, sn_up_at]
          rcases hnew.1 with ⟨a, -, c⟩ | ⟨a, b, c⟩
          · exact Or.inl ⟨a, c⟩
          · exact Or.inr ⟨a, by omega, by omega⟩
        · rw [r1, r2, r3, r4, r5, en, show ((T.2 : Int) + 1).toNat = T.2 + 1 from rfl] at hx
          have hdx : dx_is (T.1 0) (T.1 1) (T.1 2) T.2 (T.1 3) k l r x := by
            obtain ⟨x1, x2⟩ := hx
            rw [sn_up_at, sn_up_at, sn_up_at] at x1 x2
            refine ⟨fun z => fm_F_back (x1 z) (by omega), fun z => ?_⟩
            obtain ⟨y1, y2⟩ := x2 z
            rcases hnew.1 with ⟨a, -, c⟩ | ⟨a, b, c⟩
            · exact absurd a z
            · have d1 := (dp_b (hdp l.toNat (by omega))).1
              have d2 := (dp_b (hdp r.toNat (by omega))).1
              exact ⟨fun w => y1 (by omega), fun w1 w2 => fm_F_back (y2 (by omega) (by omega)) (by omega)⟩
          have hxb : -1 ≤ x ∧ x < (T.2 : Int) := by
            by_cases hk : k = 0
            · exact fm_F_b (hdx.1 hk)
            · obtain ⟨h1, h2⟩ := hdx.2 hk
              by_cases hc : T.1 3 l.toNat < 0 ∨ T.1 3 r.toNat < 0
              · rw [h1 hc]; omega
              · exact fm_F_b (h2 (by omega) (by omega))
          have ex : sn_u τ.1 5 0 T.2 x 5 0 T.2 = x := by rw [sn_u_at, if_pos rfl]
          have key : ∀ σ' : sn_M, fo_f σ σ' → σ'.1 5 0 = dx_d (T.1 3) T.2 x → (∀ a, a ≠ 5 → σ'.1 a 0 = τ.1 a 0) → post (some (.inl (σ.1 1 0 7))) σ' := by
            intro σ' hf h5 ha
            rw [vn]
            refine h x σ' hdx ⟨⟨?_, ?_, ?_, ?_, ?_⟩, ?_⟩ hf
            · rw [ha 2 (by omega), r2]; rfl
            · rw [ha 3 (by omega), r3]; rfl
            · rw [ha 4 (by omega), r4]; rfl
            · exact h5
            · rw [ha 6 (by omega), r6, eo]; rfl
            · rw [ha 1 (by omega), r1]; rfl
          show _ ∧ _ ∧ _ ∧ _
          rw [ex]
          refine ⟨hb, hb, fun c1 => ?_, fun c1 => ⟨hb, ⟨by omega, by omega⟩, ?_⟩⟩
          · refine key _ (fo_f_u fr (by omega) _) ?_ (fun a ha => sn_u_rk ha)
            show sn_u τ.1 5 0 T.2 x 5 0 = _
            rw [sn_u_rs, r5]
            unfold dx_d
            rw [if_pos c1]
          · refine key _ (fo_f_u (σ' := (sn_u τ.1 5 0 T.2 x, τ.2)) (fo_f_u fr (by omega) _) (by omega) _) ?_ (fun a ha => (sn_u_rk ha).trans (sn_u_rk ha))
            show sn_u (sn_u τ.1 5 0 T.2 x) 5 0 x.toNat (σ.1 1 0 7) 5 0 = _
            rw [sn_u_rs, sn_u_rs, r5, vn]
            unfold dx_d
            rw [if_neg c1]
      refine hG 120 [] _ _ _ _ ?_
      refine And.intro ⟨by show -2147483648 ≤ σ.1 1 0 7 + 1; omega, by show σ.1 1 0 7 + 1 < 2147483648; omega⟩ (And.intro hb (And.intro hb (And.intro hb (And.intro (fun c1 => ?_) (fun c1 => ?_)))))
      · have c1 : k = 0 := c1
        exact And.intro hb (fin 1 (by rw [if_pos c1]))
      · have c1 : ¬ k = 0 := c1
        rcases hnew.1 with ⟨a, -, c⟩ | ⟨a, b, c⟩
        · exact absurd a c1
        · have e4 : ∀ j, fo_m4 σ (σ.1 1 0 7).toNat (σ.1 1 0 7 + 1) k l r 6 0 j = T.1 4 j := by
            intro j
            unfold fo_m4
            rw [sn_u_rk (by omega), sn_u_rk (by omega), sn_u_rk (by omega), sn_u_rk (by omega), v4]
          have ol := ho l.toNat (by omega)
          have orr := ho r.toNat (by omega)
          refine And.intro (show (0 : Int) ≤ l ∧ l < (80 : Nat) from ⟨b.1, by omega⟩) (And.intro (show (0 : Int) ≤ r ∧ r < (80 : Nat) from ⟨c.1, by omega⟩) (And.intro ?_ ?_))
          · show sn_R (fo_m4 σ (σ.1 1 0 7).toNat (σ.1 1 0 7 + 1) k l r 6 0 l.toNat + fo_m4 σ (σ.1 1 0 7).toNat (σ.1 1 0 7 + 1) k l r 6 0 r.toNat)
            rw [e4, e4]
            exact ⟨by omega, by omega⟩
          · refine And.intro hb (fin _ ?_)
            rw [if_neg c1]
            show (if (9 : Int) < fo_m4 σ (σ.1 1 0 7).toNat (σ.1 1 0 7 + 1) k l r 6 0 l.toNat + fo_m4 σ (σ.1 1 0 7).toNat (σ.1 1 0 7 + 1) k l r 6 0 r.toNat then (9 : Int) else fo_m4 σ (σ.1 1 0 7).toNat (σ.1 1 0 7 + 1) k l r 6 0 l.toNat + fo_m4 σ (σ.1 1 0 7).toNat (σ.1 1 0 7 + 1) k l r 6 0 r.toNat) = _
            rw [e4, e4]
            rfl
    · exact h.elim
