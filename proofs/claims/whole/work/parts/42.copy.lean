/-! The reference's copy; the c-th cut, in the class and in the reference. -/
def cp_P (t : Nat) (a b c : Nat) : Prop := b = 0 ∧ (((a = 46 ∨ a = 47 ∨ a = 48) ∧ c = t) ∨ (49 ≤ a ∧ a ≤ 52 ∧ 60 * t ≤ c ∧ c < 60 * t + 60) ∨ (53 ≤ a ∧ a ≤ 57 ∧ 100 * t ≤ c ∧ c < 100 * t + 100))
def cp_ok (σ σ' : sn_M) (f t : Nat) : Prop := (σ'.1 46 0 t = σ.1 46 0 f ∧ σ'.1 47 0 t = σ.1 47 0 f ∧ σ'.1 48 0 t = σ.1 48 0 f) ∧ (∀ a l : Nat, 49 ≤ a → a ≤ 52 → l < 60 → σ'.1 a 0 (60 * t + l) = σ.1 a 0 (60 * f + l)) ∧ (∀ a l : Nat, 53 ≤ a → a ≤ 57 → l < 100 → σ'.1 a 0 (100 * t + l) = σ.1 a 0 (100 * f + l)) ∧ sn_fr (cp_P t) σ σ'
def sp_MD_copy : sn_P := fun vs σ po => match vs with
  | [.inr (.inr q), .inl f, .inl t] => q = (40, 0) ∧ (0 ≤ f ∧ f < 4 ∧ 0 ≤ t ∧ t < 4 ∧ f ≠ t) ∧ ∀ σ', cp_ok σ σ' f.toNat t.toNat → po none σ'
  | _ => False
theorem sn_fr_u {P : Nat → Nat → Nat → Prop} {σ σ' : sn_M} (h : sn_fr P σ σ') {k i j : Nat} (hp : P k i j) (x : Int) : sn_fr P σ (sn_u σ'.1 k i j x, σ'.2) := ⟨h.1, fun a b c hn => (sn_u_n (fun z => hn (by obtain ⟨rfl, rfl, rfl⟩ := z; exact hp))).trans (h.2 a b c hn)⟩
def ca_MD_copy : List (Nat × Nat × Nat × sn_P) := []
theorem co_MD_copy : ∀ x n ci s', sn_lk ca_MD_copy x = some (n, ci, s') → sn_CO "SwitchedNetsModel" sn_ws 0 x n ci s' := fun _ _ _ _ h => by cases h
set_option maxHeartbeats 2000000 in
theorem ct_MD_copy : sn_CT y_MD_copy ws_MD_copy 0 sp_MD_copy := by
  refine sn_CT_of (pr := pr_MD_copy) (fi := (sn_lk ft_MD)) (lc := (sn_lk lc_MD)) (ca := sn_lk ca_MD_copy) pl_MD ?_ pk_MD_copy FI_MD LC_MD co_MD_copy ?_
  · intro vs σ post h
    unfold sp_MD_copy at h
    split at h
    · exact Nat.le_of_ble_eq_true rfl
    · exact h.elim
  · intro vs σ post h hvs hR
    unfold sp_MD_copy at h
    split at h
    · next q f t =>
      obtain ⟨rfl, ⟨hf0, hf1, ht0, ht1, hne⟩, h⟩ := h
      intro G hG
      obtain ⟨fn, rfl⟩ := Int.eq_ofNat_of_zero_le hf0
      obtain ⟨tn, rfl⟩ := Int.eq_ofNat_of_zero_le ht0
      have h : ∀ σ', cp_ok σ σ' fn tn → post none σ' := h
      have hft : fn ≠ tn := fun z => hne (congrArg Int.ofNat z)
      have bf : (0 : Int) ≤ (fn : Int) ∧ (fn : Int) < (4 : Nat) := ⟨by omega, by omega⟩
      have bt : (0 : Int) ≤ (tn : Int) ∧ (tn : Int) < (4 : Nat) := ⟨by omega, by omega⟩
      have rf : sn_R (60 * (fn : Int)) := ⟨by omega, by omega⟩
      have rt : sn_R (60 * (tn : Int)) := ⟨by omega, by omega⟩
      have sf : sn_R (100 * (fn : Int)) := ⟨by omega, by omega⟩
      have st : sn_R (100 * (tn : Int)) := ⟨by omega, by omega⟩
      have loop2 : ∀ (d l : Nat) (σ1 : sn_M), 100 - l = d → l ≤ 100 → (σ1.1 46 0 tn = σ.1 46 0 fn ∧ σ1.1 47 0 tn = σ.1 47 0 fn ∧ σ1.1 48 0 tn = σ.1 48 0 fn) → (∀ a l' : Nat, 49 ≤ a → a ≤ 52 → l' < 60 → σ1.1 a 0 (60 * tn + l') = σ.1 a 0 (60 * fn + l')) → (∀ a l' : Nat, 53 ≤ a → a ≤ 57 → l' < l → σ1.1 a 0 (100 * tn + l') = σ.1 a 0 (100 * fn + l')) → sn_fr (cp_P tn) σ σ1 →
          G 140 [some (.inr (.inr (40, 0))), some (.inl (fn : Int)), some (.inl (tn : Int)), some (.inl (l : Int))] [] σ1 := by
        intro d
        induction d with
        | zero =>
          intro l σ1 hd hl h46 hA hB hF
          have e : l = 100 := by omega
          subst e
          refine hG 200 [140] _ _ _ _ ?_
          exact And.intro (fun c1 => absurd c1 (by decide)) (fun _ => h σ1 ⟨h46, hA, hB, hF⟩)
        | succ d ih =>
          intro l σ1 hd hl h46 hA hB hF
          have hr : sn_R ((l : Int) + 1) := ⟨by omega, by omega⟩
          have r1 : sn_R (100 * (tn : Int) + (l : Int)) := ⟨by omega, by omega⟩
          have r2 : sn_R (100 * (fn : Int) + (l : Int)) := ⟨by omega, by omega⟩
          have b1 : (0 : Int) ≤ 100 * (tn : Int) + (l : Int) ∧ 100 * (tn : Int) + (l : Int) < (400 : Nat) := ⟨by omega, by omega⟩
          have b2 : (0 : Int) ≤ 100 * (fn : Int) + (l : Int) ∧ 100 * (fn : Int) + (l : Int) < (400 : Nat) := ⟨by omega, by omega⟩
          have hfrom : ∀ a, 53 ≤ a → a ≤ 57 → σ1.1 a 0 (100 * fn + l) = σ.1 a 0 (100 * fn + l) := fun a h1 h2 => hF.2 a 0 _ (fun z => by rcases z.2 with z | z | z <;> omega)
          refine hG 200 [140] _ _ _ _ ?_
          refine And.intro (fun c1 => And.intro st (And.intro r1 (And.intro sf (And.intro r2 (And.intro b2 (And.intro b1 (And.intro st (And.intro r1 (And.intro sf (And.intro r2 (And.intro b2 (And.intro b1 (And.intro st (And.intro r1 (And.intro sf (And.intro r2 (And.intro b2 (And.intro b1 (And.intro st (And.intro r1 (And.intro sf (And.intro r2 (And.intro b2 (And.intro b1 (And.intro st (And.intro r1 (And.intro sf (And.intro r2 (And.intro b2 (And.intro b1 (And.intro hr ?_))))))))))))))))))))))))))))))) (fun c1 => ?_)
          · have m1 : ∀ a, (a = 53 ∨ a = 54 ∨ a = 55 ∨ a = 56 ∨ a = 57) → cp_P tn a 0 (100 * tn + l) := fun a ha => ⟨rfl, Or.inr (Or.inr ⟨by omega, by omega, by omega, by omega⟩)⟩
            refine ih (l + 1) (sn_u (sn_u (sn_u (sn_u (sn_u σ1.1 53 0 (100 * tn + l) (σ1.1 53 0 (100 * fn + l))) 54 0 (100 * tn + l) (σ1.1 54 0 (100 * fn + l))) 55 0 (100 * tn + l) (σ1.1 55 0 (100 * fn + l))) 56 0 (100 * tn + l) (σ1.1 56 0 (100 * fn + l))) 57 0 (100 * tn + l) (σ1.1 57 0 (100 * fn + l)), σ1.2) (by omega) (by omega) ?_ ?_ ?_ ?_
            · simp only [sn_u, Nat.reduceEqDiff, false_and, if_false]
              exact h46
            · intro a l' h1 h2 h3
              have := hA a l' h1 h2 h3
              simp only [sn_u]
              rw [if_neg (by omega), if_neg (by omega), if_neg (by omega), if_neg (by omega), if_neg (by omega)]
              exact this
            · intro a l' h1 h2 h3
              simp only [sn_u]
              by_cases e : l' = l
              · subst e
                have ha : a = 53 ∨ a = 54 ∨ a = 55 ∨ a = 56 ∨ a = 57 := by omega
                rcases ha with rfl | rfl | rfl | rfl | rfl <;> simp [hfrom]
              · have := hB a l' h1 h2 (by omega)
                rw [if_neg (by omega), if_neg (by omega), if_neg (by omega), if_neg (by omega), if_neg (by omega)]
                exact this
            · exact sn_fr_u (sn_fr_u (sn_fr_u (sn_fr_u (sn_fr_u hF (m1 53 (by omega)) _) (m1 54 (by omega)) _) (m1 55 (by omega)) _) (m1 56 (by omega)) _) (m1 57 (by omega)) _
          · have c1 : (100 : Int) ≤ (l : Int) := c1
            omega
      have loop1 : ∀ (d l : Nat) (σ1 : sn_M), 60 - l = d → l ≤ 60 → (σ1.1 46 0 tn = σ.1 46 0 fn ∧ σ1.1 47 0 tn = σ.1 47 0 fn ∧ σ1.1 48 0 tn = σ.1 48 0 fn) → (∀ a l' : Nat, 49 ≤ a → a ≤ 52 → l' < l → σ1.1 a 0 (60 * tn + l') = σ.1 a 0 (60 * fn + l')) → sn_fr (cp_P tn) σ σ1 →
          G 38 [some (.inr (.inr (40, 0))), some (.inl (fn : Int)), some (.inl (tn : Int)), some (.inl (l : Int))] [] σ1 := by
        intro d
        induction d with
        | zero =>
          intro l σ1 hd hl h46 hA hF
          have e : l = 60 := by omega
          subst e
          refine hG 200 [38, 140] _ _ _ _ ?_
          exact And.intro (fun c1 => absurd c1 (by decide)) (fun _ => loop2 100 0 σ1 (by omega) (by omega) h46 hA (fun a l' _ _ h3 => by omega) hF)
        | succ d ih =>
          intro l σ1 hd hl h46 hA hF
          have hr : sn_R ((l : Int) + 1) := ⟨by omega, by omega⟩
          have r1 : sn_R (60 * (tn : Int) + (l : Int)) := ⟨by omega, by omega⟩
          have r2 : sn_R (60 * (fn : Int) + (l : Int)) := ⟨by omega, by omega⟩
          have b1 : (0 : Int) ≤ 60 * (tn : Int) + (l : Int) ∧ 60 * (tn : Int) + (l : Int) < (240 : Nat) := ⟨by omega, by omega⟩
          have b2 : (0 : Int) ≤ 60 * (fn : Int) + (l : Int) ∧ 60 * (fn : Int) + (l : Int) < (240 : Nat) := ⟨by omega, by omega⟩
          have hfrom : ∀ a, 49 ≤ a → a ≤ 52 → σ1.1 a 0 (60 * fn + l) = σ.1 a 0 (60 * fn + l) := fun a h1 h2 => hF.2 a 0 _ (fun z => by rcases z.2 with z | z | z <;> omega)
          refine hG 200 [38, 140] _ _ _ _ ?_
          refine And.intro (fun c1 => And.intro rt (And.intro r1 (And.intro rf (And.intro r2 (And.intro b2 (And.intro b1 (And.intro rt (And.intro r1 (And.intro rf (And.intro r2 (And.intro b2 (And.intro b1 (And.intro rt (And.intro r1 (And.intro rf (And.intro r2 (And.intro b2 (And.intro b1 (And.intro rt (And.intro r1 (And.intro rf (And.intro r2 (And.intro b2 (And.intro b1 (And.intro hr ?_))))))))))))))))))))))))) (fun c1 => ?_)
          · have m1 : ∀ a, (a = 49 ∨ a = 50 ∨ a = 51 ∨ a = 52) → cp_P tn a 0 (60 * tn + l) := fun a ha => ⟨rfl, Or.inr (Or.inl ⟨by omega, by omega, by omega, by omega⟩)⟩
            refine ih (l + 1) (sn_u (sn_u (sn_u (sn_u σ1.1 49 0 (60 * tn + l) (σ1.1 49 0 (60 * fn + l))) 50 0 (60 * tn + l) (σ1.1 50 0 (60 * fn + l))) 51 0 (60 * tn + l) (σ1.1 51 0 (60 * fn + l))) 52 0 (60 * tn + l) (σ1.1 52 0 (60 * fn + l)), σ1.2) (by omega) (by omega) ?_ ?_ ?_
            · simp only [sn_u, Nat.reduceEqDiff, false_and, if_false]
              exact h46
            · intro a l' h1 h2 h3
              simp only [sn_u]
              by_cases e : l' = l
              · subst e
                have ha : a = 49 ∨ a = 50 ∨ a = 51 ∨ a = 52 := by omega
                rcases ha with rfl | rfl | rfl | rfl <;> simp [hfrom]
              · have := hA a l' h1 h2 (by omega)
                rw [if_neg (by omega), if_neg (by omega), if_neg (by omega), if_neg (by omega)]
                exact this
            · exact sn_fr_u (sn_fr_u (sn_fr_u (sn_fr_u hF (m1 49 (by omega)) _) (m1 50 (by omega)) _) (m1 51 (by omega)) _) (m1 52 (by omega)) _
          · have c1 : (60 : Int) ≤ (l : Int) := c1
            omega
      refine hG 200 [38] _ _ _ _ ?_
      refine And.intro bf (And.intro bt (And.intro bf (And.intro bt (And.intro bf (And.intro bt ?_)))))
      have F0 : sn_fr (cp_P tn) σ σ := ⟨rfl, fun _ _ _ _ => rfl⟩
      refine loop1 60 0 (sn_u (sn_u (sn_u σ.1 46 0 tn (σ.1 46 0 fn)) 47 0 tn (σ.1 47 0 fn)) 48 0 tn (σ.1 48 0 fn), σ.2) (by omega) (by omega) ?_ (fun a l' _ _ h3 => by omega) (sn_fr_u (sn_fr_u (sn_fr_u F0 ⟨rfl, Or.inl ⟨by omega, rfl⟩⟩ _) ⟨rfl, Or.inl ⟨by omega, rfl⟩⟩ _) ⟨rfl, Or.inl ⟨by omega, rfl⟩⟩ _)
      simp [sn_u]
    · exact h.elim
