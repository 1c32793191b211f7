/-! The class's duals: addDual, partWithoutDual, missingDuals, obtainDual. -/
def sp_FO_addDual : sn_P := fun vs σ po => match vs with
  | [.inr (.inr q), .inl f] => q = (1, 0) ∧ ∃ T : fT, fo_v T σ ∧ fT_ok T ∧ T.2 < 80 ∧ (0 ≤ f ∧ f < (T.2 : Int)) ∧ T.1 3 f.toNat < 0 ∧ dl_r T f.toNat ∧ ∀ σ', fo_v (dl_a T f.toNat) σ' → fo_f σ σ' → po none σ'
  | _ => False
def ca_FO_addDual : List (Nat × Nat × Nat × sn_P) := [(42, 4, 1, sp_FO_add), (65, 1, 0, sp_FO_otherKind)]
theorem co_FO_addDual : ∀ x n ci s', sn_lk ca_FO_addDual x = some (n, ci, s') → sn_CO "SwitchedNets$Formulas" sn_ws 3 x n ci s' := sn_co_of (List.forall_mem_cons.mpr ⟨sn_CO_V ("SwitchedNets$Formulas", T_FO, 8) ct_FO_add (by decide) (by decide) (sn_gV ml_FO_42 mi_FO_add ms_FO_add mz_FO mc_FO_add) (by decide) rfl rfl ⟨nh_FO.1, nh_FO.2, pn_FO_add⟩, List.forall_mem_cons.mpr ⟨sn_CO_S ct_FO_otherKind (by decide) (by decide) (sn_gS ml_FO_65 mt_FO_otherKind mz_FO mc_FO_otherKind) ⟨nh_FO.1, nh_FO.2, pn_FO_otherKind⟩, fun _ h => absurd h List.not_mem_nil⟩⟩)
theorem ct_FO_addDual : sn_CT y_FO_addDual ws_FO_addDual 3 sp_FO_addDual := by
  refine sn_CT_of (pr := pr_FO_addDual) (fi := (sn_lk ft_FO)) (lc := sn_no) (ca := sn_lk ca_FO_addDual) pl_FO ?_ pk_FO_addDual FI_FO (sn_no_ok _) co_FO_addDual ?_
  · intro vs σ post h
    unfold sp_FO_addDual at h
    split at h
    · exact Nat.le_of_ble_eq_true rfl
    · exact h.elim
  · intro vs σ post h hvs hR
    unfold sp_FO_addDual at h
    split at h
    · next q f =>
      obtain ⟨rfl, T, hv, hT, h80, ⟨hf0, hf1⟩, hd, hr, h⟩ := h
      obtain ⟨⟨v0, v1, v2, v3, v4⟩, vn⟩ := id hv
      intro G hG
      have hb : (0 : Int) ≤ f ∧ f < (80 : Nat) := ⟨hf0, by omega⟩
      have hfn : f.toNat < T.2 := by omega
      obtain ⟨n1, n2⟩ := dl_new hT hfn hd hr
      have ef : ((f.toNat : Nat) : Int) = f := by omega
      refine hG 90 [] _ _ _ _ ?_
      refine And.intro hb (And.intro (fun c1 => ?_) (fun c1 => ?_))
      · have c1 : σ.1 2 0 f.toNat = 0 := c1
        have c2 : T.1 0 f.toNat = 0 := by rw [← v0]; exact c1
        rw [if_pos c2, if_pos c2, if_pos c2] at n1 n2
        rcases hT.1 f.toNat hfn with ⟨-, -, hr2⟩ | ⟨z, -⟩
        · refine And.intro hb (And.intro hb (And.intro ⟨by show -2147483648 ≤ 1 - σ.1 4 0 f.toNat; rw [v2]; omega, by show 1 - σ.1 4 0 f.toNat < 2147483648; rw [v2]; omega⟩ (And.intro rfl ⟨T, hv, hT, h80, ?_, fun x σ' hx hv' hf' => ?_⟩)))
          · show tb_new _ _ _ _ 0 (σ.1 3 0 f.toNat) (1 - σ.1 4 0 f.toNat)
            rw [v1, v2]
            exact n1
          · have hx : dx_is (T.1 0) (T.1 1) (T.1 2) T.2 (T.1 3) 0 (σ.1 3 0 f.toNat) (1 - σ.1 4 0 f.toNat) x := hx
            have hv' : fo_v (fT_add T 0 (σ.1 3 0 f.toNat) (1 - σ.1 4 0 f.toNat) x) σ' := hv'
            rw [v1, v2] at hx hv'
            rw [dx_u hT.2.1 hx n2] at hv'
            refine h σ' ?_ hf'
            unfold dl_a
            rw [if_pos c2, if_pos c2, if_pos c2]
            exact hv'
        · omega
      · have c1 : ¬ σ.1 2 0 f.toNat = 0 := c1
        have c2 : ¬ T.1 0 f.toNat = 0 := by rw [← v0]; exact c1
        rw [if_neg c2, if_neg c2, if_neg c2] at n1 n2
        rcases hT.1 f.toNat hfn with ⟨z, -⟩ | ⟨hk, ⟨hl0, hl1⟩, ⟨hr0, hr1⟩⟩
        · exact absurd z c2
        · have bl : (0 : Int) ≤ σ.1 3 0 f.toNat ∧ σ.1 3 0 f.toNat < (80 : Nat) := by rw [v1]; omega
          have br : (0 : Int) ≤ σ.1 4 0 f.toNat ∧ σ.1 4 0 f.toNat < (80 : Nat) := by rw [v2]; omega
          have go1 : ∀ k : Int, k = 3 - T.1 0 f.toNat → tb_new (T.1 0) (T.1 1) (T.1 2) T.2 k (σ.1 5 0 (σ.1 3 0 f.toNat).toNat) (σ.1 5 0 (σ.1 4 0 f.toNat).toNat) := by
            intro k ek
            rw [v1, v2, v3, ek]
            exact n1
          have go2 : ∀ (k x : Int) (σ' : sn_M), k = 3 - T.1 0 f.toNat → dx_is (T.1 0) (T.1 1) (T.1 2) T.2 (T.1 3) k (σ.1 5 0 (σ.1 3 0 f.toNat).toNat) (σ.1 5 0 (σ.1 4 0 f.toNat).toNat) x → fo_v (fT_add T k (σ.1 5 0 (σ.1 3 0 f.toNat).toNat) (σ.1 5 0 (σ.1 4 0 f.toNat).toNat) x) σ' → fo_v (dl_a T f.toNat) σ' := by
            intro k x σ' ek hx hv'
            rw [v1, v2, v3, ek] at hx hv'
            rw [dx_u hT.2.1 hx n2] at hv'
            unfold dl_a
            rw [if_neg c2, if_neg c2, if_neg c2]
            exact hv'
          refine And.intro hb ?_
          intro G2
          refine And.intro (fun c4 => ?_) (fun c4 => ?_)
          · have c4 : σ.1 2 0 f.toNat = 1 := c4
            have c5 : (2 : Int) = 3 - T.1 0 f.toNat := by rw [← v0, c4]; rfl
            exact And.intro hb (And.intro bl (And.intro hb (And.intro br (And.intro rfl ⟨T, hv, hT, h80, go1 2 c5, fun x σ' hx hv' hf' => h σ' (go2 2 x σ' c5 hx hv') hf'⟩))))
          · have c4 : ¬ σ.1 2 0 f.toNat = 1 := c4
            have c5 : (1 : Int) = 3 - T.1 0 f.toNat := by rw [v0] at c4; omega
            exact And.intro hb (And.intro bl (And.intro hb (And.intro br (And.intro rfl ⟨T, hv, hT, h80, go1 1 c5, fun x σ' hx hv' hf' => h σ' (go2 1 x σ' c5 hx hv') hf'⟩))))
    · exact h.elim
def sp_FO_partWithoutDual : sn_P := fun vs σ po => match vs with
  | [.inr (.inr q), .inl f] => q = (1, 0) ∧ (0 ≤ f ∧ f < 80) ∧ (σ.1 2 0 f.toNat = 0 → po (some (.inl (-1))) σ) ∧ (¬ σ.1 2 0 f.toNat = 0 → (0 ≤ σ.1 3 0 f.toNat ∧ σ.1 3 0 f.toNat < 80) ∧ (0 ≤ σ.1 4 0 f.toNat ∧ σ.1 4 0 f.toNat < 80) ∧ (σ.1 5 0 (σ.1 3 0 f.toNat).toNat = -1 → po (some (.inl (σ.1 3 0 f.toNat))) σ) ∧ (¬ σ.1 5 0 (σ.1 3 0 f.toNat).toNat = -1 → (σ.1 5 0 (σ.1 4 0 f.toNat).toNat = -1 → po (some (.inl (σ.1 4 0 f.toNat))) σ) ∧ (¬ σ.1 5 0 (σ.1 4 0 f.toNat).toNat = -1 → po (some (.inl (-1))) σ)))
  | _ => False
def ca_FO_partWithoutDual : List (Nat × Nat × Nat × sn_P) := []
theorem co_FO_partWithoutDual : ∀ x n ci s', sn_lk ca_FO_partWithoutDual x = some (n, ci, s') → sn_CO "SwitchedNets$Formulas" sn_ws 0 x n ci s' := fun _ _ _ _ h => by cases h
theorem ct_FO_partWithoutDual : sn_CT y_FO_partWithoutDual ws_FO_partWithoutDual 0 sp_FO_partWithoutDual := by
  refine sn_CT_of (pr := pr_FO_partWithoutDual) (fi := (sn_lk ft_FO)) (lc := sn_no) (ca := sn_lk ca_FO_partWithoutDual) pl_FO ?_ pk_FO_partWithoutDual FI_FO (sn_no_ok _) co_FO_partWithoutDual ?_
  · intro vs σ post h
    unfold sp_FO_partWithoutDual at h
    split at h
    · exact Nat.le_of_ble_eq_true rfl
    · exact h.elim
  · intro vs σ post h hvs hR
    unfold sp_FO_partWithoutDual at h
    split at h
    · next q f =>
      obtain ⟨rfl, ⟨hf0, hf1⟩, h1, h2⟩ := h
      intro G hG
      have hb : (0 : Int) ≤ f ∧ f < (80 : Nat) := ⟨hf0, by omega⟩
      refine hG 90 [] _ _ _ _ ?_
      refine And.intro hb (And.intro (fun c1 => h1 c1) (fun c1 => ?_))
      obtain ⟨⟨a1, a2⟩, ⟨b1, b2⟩, h3, h4⟩ := h2 c1
      have bl : (0 : Int) ≤ σ.1 3 0 f.toNat ∧ σ.1 3 0 f.toNat < (80 : Nat) := ⟨a1, by omega⟩
      have br : (0 : Int) ≤ σ.1 4 0 f.toNat ∧ σ.1 4 0 f.toNat < (80 : Nat) := ⟨b1, by omega⟩
      refine And.intro hb (And.intro bl (And.intro (fun c2 => And.intro hb (h3 c2)) (fun c2 => And.intro hb (And.intro br (And.intro (fun c3 => And.intro hb ((h4 c2).1 c3)) (fun c3 => (h4 c2).2 c3))))))
    · exact h.elim
theorem cB_seg {p q : Nat → Bool} {a : Nat} : ∀ {n : Nat}, a ≤ n → (∀ h, a ≤ h → h < n → p h = q h) → cB p n + cB q a = cB q n + cB p a := by
  intro n
  induction n with
  | zero =>
    intro ha _
    have e : a = 0 := by omega
    subst e
    rfl
  | succ n ih =>
    intro ha h
    by_cases e : a = n + 1
    · subst e
      omega
    · have g := ih (by omega) (fun j h1 h2 => h j h1 (by omega))
      show (cB p n + (bif p n then 1 else 0)) + cB q a = (cB q n + (bif q n then 1 else 0)) + cB p a
      rw [h n (by omega) (by omega)]
      omega
def sp_FO_missingDuals : sn_P := fun vs σ po => match vs with
  | [.inr (.inr q), .inl f] => q = (1, 0) ∧ ∃ T : fT, fo_v T σ ∧ fT_ok T ∧ T.2 ≤ 80 ∧ (0 ≤ f ∧ f < (T.2 : Int)) ∧ ∀ (m : Nat → Bool) σ', (∀ g, g ≤ f.toNat → (m g = true ↔ pt (T.1 0) (T.1 1) (T.1 2) f.toNat g)) → sn_fr (fun a _ _ => a = 7) σ σ' → po (some (.inl (cB (fun g => decide (T.1 3 g < 0) && m g) (f.toNat + 1) : Int))) σ'
  | _ => False
/-- the marks of missingDuals, when all from i on have been seen -/
def mk_ok (K L R : Nat → Int) (f i : Nat) (P : Nat → Int) : Prop := (∀ h, h ≤ f → P h = 0 ∨ P h = 1) ∧ ∀ h, h ≤ f → (P h = 1 ↔ (h = f ∨ ∃ k, i ≤ k ∧ k ≤ f ∧ P k = 1 ∧ ¬ K k = 0 ∧ (h = (L k).toNat ∨ h = (R k).toNat)))
theorem mk_pt {K L R : Nat → Int} {n f : Nat} (hw : tb_w K L R n) (hf : f < n) {P : Nat → Int} (h : mk_ok K L R f 0 P) : ∀ g, g ≤ f → (P g = 1 ↔ pt K L R f g) := by
  intro g hg
  constructor
  · have : ∀ (m g : Nat), f - g = m → g ≤ f → P g = 1 → pt K L R f g := by
      intro m
      induction m using Nat.strongRecOn with
      | ind m ih =>
        intro g hm hg hp
        rcases (h.2 g hg).mp hp with e | ⟨k, -, hk, hpk, hk0, e⟩
        · rw [e]; exact pt_rf _ _ _ _
        · rcases hw k (by omega) with ⟨z, -⟩ | ⟨-, hl, hr⟩
          · exact absurd z hk0
          · have q := pt_st (ih (f - k) (by omega) k rfl hk hpk) hk0
            rcases e with e | e
            · rw [e]; exact q.1
            · rw [e]; exact q.2
    exact this (f - g) g rfl hg
  · intro z
    refine (z (fun g => g ≤ f ∧ P g = 1) ⟨Nat.le_refl _, (h.2 f (Nat.le_refl _)).mpr (Or.inl rfl)⟩ (fun k hk hk0 => ?_)).2
    rcases hw k (by omega) with ⟨z, -⟩ | ⟨-, hl, hr⟩
    · exact absurd z hk0
    · exact ⟨⟨by omega, (h.2 _ (by omega)).mpr (Or.inr ⟨k, by omega, hk.1, hk.2, hk0, Or.inl rfl⟩)⟩, ⟨by omega, (h.2 _ (by omega)).mpr (Or.inr ⟨k, by omega, hk.1, hk.2, hk0, Or.inr rfl⟩)⟩⟩
theorem mk_no {K L R : Nat → Int} {f i : Nat} {P : Nat → Int} (h : mk_ok K L R f (i + 1) P) (hno : ¬ P i = 1 ∨ K i = 0) : mk_ok K L R f i P := by
  refine ⟨h.1, fun g hg => (h.2 g hg).trans ⟨?_, ?_⟩⟩
  · rintro (e | ⟨k, h1, h2⟩)
    · exact Or.inl e
    · exact Or.inr ⟨k, by omega, h2⟩
  · rintro (e | ⟨k, h1, h2, h3, h4, h5⟩)
    · exact Or.inl e
    · by_cases ek : k = i
      · subst ek
        rcases hno with z | z
        · exact absurd h3 z
        · exact absurd z h4
      · exact Or.inr ⟨k, by omega, h2, h3, h4, h5⟩
theorem mk_yes {K L R : Nat → Int} {f i l r : Nat} {P : Nat → Int} (h : mk_ok K L R f (i + 1) P) (hif : i ≤ f) (h1 : P i = 1) (h0 : ¬ K i = 0) (hl : l = (L i).toNat) (hr : r = (R i).toNat) (hli : l < i) (hri : r < i) : mk_ok K L R f i (sn_up (sn_up P l 1) r 1) := by
  have e : ∀ g, sn_up (sn_up P l 1) r 1 g = 1 ↔ (g = l ∨ g = r ∨ P g = 1) := by
    intro g
    unfold sn_up
    by_cases a : g = r
    · rw [if_pos a]; exact ⟨fun _ => Or.inr (Or.inl a), fun _ => rfl⟩
    · rw [if_neg a]
      by_cases b : g = l
      · rw [if_pos b]; exact ⟨fun _ => Or.inl b, fun _ => rfl⟩
      · rw [if_neg b]
        exact ⟨fun z => Or.inr (Or.inr z), fun z => by rcases z with z | z | z; exact absurd z b; exact absurd z a; exact z⟩
  refine ⟨fun g hg => ?_, fun g hg => (e g).trans ⟨?_, ?_⟩⟩
  · unfold sn_up
    by_cases a : g = r
    · rw [if_pos a]; exact Or.inr rfl
    · rw [if_neg a]
      by_cases b : g = l
      · rw [if_pos b]; exact Or.inr rfl
      · rw [if_neg b]; exact h.1 g hg
  · have hi : sn_up (sn_up P l 1) r 1 i = 1 := (e i).mpr (Or.inr (Or.inr h1))
    rintro (z | z | z)
    · exact Or.inr ⟨i, Nat.le_refl _, hif, hi, h0, Or.inl (by omega)⟩
    · exact Or.inr ⟨i, Nat.le_refl _, hif, hi, h0, Or.inr (by omega)⟩
    · rcases (h.2 g hg).mp z with z | ⟨k, y1, y2, y3, y4, y5⟩
      · exact Or.inl z
      · exact Or.inr ⟨k, by omega, y2, (e k).mpr (Or.inr (Or.inr y3)), y4, y5⟩
  · rintro (z | ⟨k, y1, y2, y3, y4, y5⟩)
    · exact Or.inr (Or.inr ((h.2 g hg).mpr (Or.inl z)))
    · by_cases ek : k = i
      · subst ek
        rcases y5 with y5 | y5
        · exact Or.inl (by omega)
        · exact Or.inr (Or.inl (by omega))
      · have y3 : P k = 1 := by
          rcases (e k).mp y3 with z | z | z
          · omega
          · omega
          · exact z
        exact Or.inr (Or.inr ((h.2 g hg).mpr (Or.inr ⟨k, by omega, y2, y3, y4, y5⟩)))
def ca_FO_missingDuals : List (Nat × Nat × Nat × sn_P) := []
theorem co_FO_missingDuals : ∀ x n ci s', sn_lk ca_FO_missingDuals x = some (n, ci, s') → sn_CO "SwitchedNets$Formulas" sn_ws 0 x n ci s' := fun _ _ _ _ h => by cases h
theorem ct_FO_missingDuals : sn_CT y_FO_missingDuals ws_FO_missingDuals 0 sp_FO_missingDuals := by
  refine sn_CT_of (pr := pr_FO_missingDuals) (fi := (sn_lk ft_FO)) (lc := sn_no) (ca := sn_lk ca_FO_missingDuals) pl_FO ?_ pk_FO_missingDuals FI_FO (sn_no_ok _) co_FO_missingDuals ?_
  · intro vs σ post h
    unfold sp_FO_missingDuals at h
    split at h
    · exact Nat.le_of_ble_eq_true rfl
    · exact h.elim
  · intro vs σ post h hvs hR
    unfold sp_FO_missingDuals at h
    split at h
    · next q f' =>
      obtain ⟨rfl, T, ⟨⟨v0, v1, v2, v3, v4⟩, vn⟩, hT, h80, ⟨hf0, hf1⟩, h⟩ := h
      intro G hG
      obtain ⟨f, rfl⟩ := Int.eq_ofNat_of_zero_le hf0
      have hw := hT.1
      have hdp := hT.2.2.1
      have ef : ((f : Int)).toNat = f := rfl
      rw [ef] at h
      have loop2 : ∀ (i : Nat) (P : Nat → Int) (c : Nat), i ≤ f + 1 → mk_ok (T.1 0) (T.1 1) (T.1 2) f i P → c + cB (fun g => decide (T.1 3 g < 0) && decide (P g = 1)) i = cB (fun g => decide (T.1 3 g < 0) && decide (P g = 1)) (f + 1) → c + i ≤ f + 1 → G 31 [some (.inr (.inr (1, 0))), some (.inl (f : Int)), some (.inl (c : Int)), some (.inl ((i : Int) - 1))] [] (sn_ov σ 7 0 P) := by
        intro i
        induction i with
        | zero =>
          intro P c hi hm hc hci
          refine hG 60 [31] _ _ _ _ ?_
          refine And.intro (fun _ => ?_) (fun c1 => ?_)
          · have e : (c : Int) = (cB (fun g => decide (T.1 3 g < 0) && decide (P g = 1)) (f + 1) : Int) := by
              have hc : c + 0 = _ := hc
              omega
            show post (some (.inl (c : Int))) (sn_ov σ 7 0 P)
            rw [e]
            refine h (fun g => decide (P g = 1)) _ (fun g hg => ?_) ⟨rfl, fun a b c' hn => sn_ov_n (fun z => hn z.1)⟩
            rw [decide_eq_true_iff]
            exact mk_pt hw (by omega) hm g hg
          · have c1 : (0 : Int) ≤ ((0 : Nat) : Int) - 1 := c1
            omega
        | succ i ih =>
          intro P c hi hm hc hci
          have ei : ((i + 1 : Nat) : Int) - 1 = (i : Int) := by omega
          rw [ei]
          have hb : (0 : Int) ≤ (i : Int) ∧ (i : Int) < (80 : Nat) := ⟨by omega, by omega⟩
          have hr : sn_R ((i : Int) + (-1)) := ⟨by omega, by omega⟩
          have hr2 : sn_R ((c : Int) + 1) := ⟨by omega, by omega⟩
          have hc2 : c + (cB (fun g => decide (T.1 3 g < 0) && decide (P g = 1)) i + (bif decide (T.1 3 i < 0) && decide (P i = 1) then 1 else 0)) = cB (fun g => decide (T.1 3 g < 0) && decide (P g = 1)) (f + 1) := hc
          have es : (sn_ov σ 7 0 P).1 7 0 i = P i := sn_ov_s σ 7 0 P i
          have nx : ∀ (P' : Nat → Int) (c' : Nat), mk_ok (T.1 0) (T.1 1) (T.1 2) f i P' → (∀ g, i ≤ g → P' g = P g) → c' = c + (bif decide (T.1 3 i < 0) && decide (P i = 1) then 1 else 0) → G 31 [some (.inr (.inr (1, 0))), some (.inl (f : Int)), some (.inl (c' : Int)), some (.inl ((i : Int) + (-1)))] [] (sn_ov σ 7 0 P') := by
            intro P' c' hm' hP' hc'
            have hle : (bif decide (T.1 3 i < 0) && decide (P i = 1) then 1 else 0) ≤ 1 := by
              cases (decide (T.1 3 i < 0) && decide (P i = 1)) <;> decide
            refine ih P' c' (by omega) hm' ?_ (by omega)
            have g := cB_seg (p := fun g => decide (T.1 3 g < 0) && decide (P' g = 1)) (q := fun g => decide (T.1 3 g < 0) && decide (P g = 1)) (a := i) (n := f + 1) (by omega) (fun j h1 h2 => by show (_ && decide (P' j = 1)) = _; rw [hP' j h1])
            omega
          have val : ∀ {x : Bool}, decide (T.1 3 i < 0) = x → P i = 1 → (bif decide (T.1 3 i < 0) && decide (P i = 1) then 1 else 0) = (bif x then 1 else 0) := by
            intro x e1 e2
            rw [e1, decide_eq_true e2, Bool.and_true]
          have tail : ∀ c' : Nat, P i = 1 → c' = c + (bif decide (T.1 3 i < 0) && decide (P i = 1) then 1 else 0) → ((0 : Int) ≤ (i : Int) ∧ (i : Int) < (80 : Nat)) ∧ (σ.1 2 0 i = 0 → sn_R ((i : Int) + (-1)) ∧ G 31 [some (.inr (.inr (1, 0))), some (.inl (f : Int)), some (.inl (c' : Int)), some (.inl ((i : Int) + (-1)))] [] (sn_ov σ 7 0 P)) ∧ (¬ σ.1 2 0 i = 0 → ((0 : Int) ≤ (i : Int) ∧ (i : Int) < (80 : Nat)) ∧ ((0 : Int) ≤ σ.1 3 0 i ∧ σ.1 3 0 i < (80 : Nat)) ∧ ((1 : Int) = 0 ∨ (1 : Int) = 1) ∧ ((0 : Int) ≤ (i : Int) ∧ (i : Int) < (80 : Nat)) ∧ ((0 : Int) ≤ σ.1 4 0 i ∧ σ.1 4 0 i < (80 : Nat)) ∧ ((1 : Int) = 0 ∨ (1 : Int) = 1) ∧ sn_R ((i : Int) + (-1)) ∧ G 31 [some (.inr (.inr (1, 0))), some (.inl (f : Int)), some (.inl (c' : Int)), some (.inl ((i : Int) + (-1)))] [] (sn_u (sn_u (sn_ov σ 7 0 P).1 7 0 (σ.1 3 0 i).toNat 1) 7 0 (σ.1 4 0 i).toNat 1, σ.2)) := by
            intro c' hp hc'
            refine ⟨hb, fun c3 => ⟨hr, ?_⟩, fun c3 => ?_⟩
            · rw [v0] at c3
              exact nx P c' (mk_no hm (Or.inr c3)) (fun _ _ => rfl) hc'
            · rw [v0] at c3
              rw [v1, v2]
              rcases hw i (by omega) with ⟨z, -⟩ | ⟨-, hl, hr'⟩
              · exact absurd z c3
              · refine ⟨hb, ⟨by omega, by omega⟩, Or.inr rfl, hb, ⟨by omega, by omega⟩, Or.inr rfl, hr, ?_⟩
                have e1 := sn_ov_u σ 7 0 P (T.1 1 i).toNat 1
                have e2 := sn_ov_u σ 7 0 (sn_up P (T.1 1 i).toNat 1) (T.1 2 i).toNat 1
                rw [← e1] at e2
                have g := nx (sn_up (sn_up P (T.1 1 i).toNat 1) (T.1 2 i).toNat 1) c' (mk_yes hm (by omega) hp c3 rfl rfl (by omega) (by omega)) (fun g hg => by rw [sn_up_ne _ (by omega), sn_up_ne _ (by omega)]) hc'
                rw [← e2] at g
                exact g
          refine hG 90 [31] _ _ _ _ ?_
          refine And.intro (fun c1 => ?_) (fun _ => And.intro hb (And.intro (fun c1 => ?_) (fun c1 => And.intro hb (And.intro (fun c2 => ?_) (fun c2 => ?_)))))
          · have c1 : (i : Int) < 0 := c1
            omega
          · have c1 : (sn_ov σ 7 0 P).1 7 0 i = 0 := c1
            rw [es] at c1
            refine And.intro hr (nx P c (mk_no hm (Or.inl (by omega))) (fun _ _ => rfl) ?_)
            rw [decide_eq_false (p := P i = 1) (by omega), Bool.and_false]
            rfl
          · have c1 : ¬ (sn_ov σ 7 0 P).1 7 0 i = 0 := c1
            rw [es] at c1
            have c2 : σ.1 5 0 i = -1 := c2
            have hp : P i = 1 := by rcases hm.1 i (by omega) with z | z; exact absurd z c1; exact z
            rw [v3] at c2
            refine And.intro hr2 (tail (c + 1) hp ?_)
            rw [val (decide_eq_true (by omega)) hp]
            rfl
          · have c1 : ¬ (sn_ov σ 7 0 P).1 7 0 i = 0 := c1
            rw [es] at c1
            have c2 : ¬ σ.1 5 0 i = -1 := c2
            have hp : P i = 1 := by rcases hm.1 i (by omega) with z | z; exact absurd z c1; exact z
            rw [v3] at c2
            have hdb := dp_b (hdp i (by omega))
            refine tail c hp ?_
            rw [val (decide_eq_false (by omega)) hp]
            rfl
      have loop1 : ∀ (m j : Nat) (P : Nat → Int), f - j = m → j ≤ f → (∀ g, g < j → P g = 0) → G 2 [some (.inr (.inr (1, 0))), some (.inl (f : Int)), some (.inl (j : Int)), none] [] (sn_ov σ 7 0 P) := by
        intro m
        induction m with
        | zero =>
          intro j P hm hj hP
          have e : j = f := by omega
          subst e
          have hb : (0 : Int) ≤ (j : Int) ∧ (j : Int) < (80 : Nat) := ⟨by omega, by omega⟩
          refine hG 60 [2, 31] _ _ _ _ ?_
          refine And.intro (fun c1 => ?_) (fun _ => And.intro hb (And.intro (Or.inr rfl) ?_))
          · have c1 : (j : Int) < (j : Int) := c1
            omega
          · have g := loop2 (j + 1) (sn_up P j 1) 0 (by omega) ⟨fun g hg => ?_, fun g hg => ?_⟩ (by omega) (by omega)
            · rw [← sn_ov_u] at g
              have e : ((j + 1 : Nat) : Int) - 1 = (j : Int) := by omega
              rw [e] at g
              exact g
            · unfold sn_up
              by_cases e : g = j
              · rw [if_pos e]; exact Or.inr rfl
              · rw [if_neg e]; exact Or.inl (hP g (by omega))
            · constructor
              · intro z
                by_cases e : g = j
                · exact Or.inl e
                · rw [sn_up_ne _ e, hP g (by omega)] at z
                  omega
              · rintro (z | ⟨k, h1, h2, -⟩)
                · rw [z, sn_up_at]
                · omega
        | succ m ih =>
          intro j P hm hj hP
          have hb : (0 : Int) ≤ (j : Int) ∧ (j : Int) < (80 : Nat) := ⟨by omega, by omega⟩
          refine hG 60 [2, 31] _ _ _ _ ?_
          refine And.intro (fun _ => And.intro hb (And.intro (Or.inl rfl) (And.intro ⟨by show -2147483648 ≤ (j : Int) + 1; omega, by show (j : Int) + 1 < 2147483648; omega⟩ ?_))) (fun c1 => ?_)
          · have g := ih (j + 1) (sn_up P j 0) (by omega) (by omega) (fun g hg => ?_)
            · rw [← sn_ov_u] at g
              exact g
            · by_cases e : g = j
              · rw [e, sn_up_at]
              · rw [sn_up_ne _ e]; exact hP g (by omega)
          · have c1 : (f : Int) ≤ (j : Int) := c1
            omega
      refine hG 60 [2, 31] _ _ _ _ ?_
      have g := loop1 f 0 (σ.1 7 0) (by omega) (by omega) (fun g hg => by omega)
      rw [sn_ov_rf] at g
      exact g
    · exact h.elim
