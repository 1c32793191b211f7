/-! The reference's structures: exact over a block's width. -/
def my_v (S : sT) (b : Nat) (σ : sn_M) : Prop := (∀ a l, a < 4 → l < 60 → σ.1 (49 + a) 0 (60 * b + l) = S.1 a l) ∧ (∀ a e, 4 ≤ a → a < 9 → e < 100 → σ.1 (49 + a) 0 (100 * b + e) = S.1 a e) ∧ σ.1 46 0 b = (S.2.1 : Int) ∧ σ.1 47 0 b = (S.2.2.1 : Int) ∧ σ.1 48 0 b = (S.2.2.2 : Int)
def y_r (S : sT) (a j : Nat) (v : Int) : sT := (fun a' => if a' = a then sn_up (S.1 a) j v else S.1 a', S.2)
theorem my_l {S : sT} {b : Nat} {σ : sn_M} (h : my_v S b σ) (a j : Nat) (v : Int) (ha : a < 4) (hj : j < 60) {k x : Nat} (hk : k = 49 + a) (hx : x = 60 * b + j) : my_v (y_r S a j v) b (sn_u σ.1 k 0 x v, σ.2) := by
  subst hk
  subst hx
  obtain ⟨h1, h2, h3, h4, h5⟩ := h
  refine ⟨fun a' l ha' hl => ?_, fun a' e g1 g2 he => ?_, ?_, ?_, ?_⟩
  · show sn_u σ.1 (49 + a) 0 (60 * b + j) v (49 + a') 0 (60 * b + l) = (if a' = a then sn_up (S.1 a) j v else S.1 a') l
    by_cases e : a' = a
    · subst e
      rw [sn_u_at, if_pos rfl]
      unfold sn_up
      by_cases z : l = j
      · rw [if_pos (by omega), if_pos z]
      · rw [if_neg (by omega), if_neg z]
        exact h1 a' l ha' hl
    · rw [if_neg e, sn_u_n (fun z => e (by have := z.1; omega))]
      exact h1 a' l ha' hl
  · show sn_u σ.1 (49 + a) 0 (60 * b + j) v (49 + a') 0 (100 * b + e) = (if a' = a then sn_up (S.1 a) j v else S.1 a') e
    rw [if_neg (by omega), sn_u_n (fun z => by have := z.1; omega)]
    exact h2 a' e g1 g2 he
  · show sn_u σ.1 (49 + a) 0 (60 * b + j) v 46 0 b = _
    rw [sn_u_n (fun z => by have := z.1; omega)]
    exact h3
  · show sn_u σ.1 (49 + a) 0 (60 * b + j) v 47 0 b = _
    rw [sn_u_n (fun z => by have := z.1; omega)]
    exact h4
  · show sn_u σ.1 (49 + a) 0 (60 * b + j) v 48 0 b = _
    rw [sn_u_n (fun z => by have := z.1; omega)]
    exact h5
theorem my_g {S : sT} {b : Nat} {σ : sn_M} (h : my_v S b σ) (a j : Nat) (v : Int) (ha : 4 ≤ a) (ha9 : a < 9) (hj : j < 100) {k x : Nat} (hk : k = 49 + a) (hx : x = 100 * b + j) : my_v (y_r S a j v) b (sn_u σ.1 k 0 x v, σ.2) := by
  subst hk
  subst hx
  obtain ⟨h1, h2, h3, h4, h5⟩ := h
  refine ⟨fun a' l ha' hl => ?_, fun a' e g1 g2 he => ?_, ?_, ?_, ?_⟩
  · show sn_u σ.1 (49 + a) 0 (100 * b + j) v (49 + a') 0 (60 * b + l) = (if a' = a then sn_up (S.1 a) j v else S.1 a') l
    rw [if_neg (by omega), sn_u_n (fun z => by have := z.1; omega)]
    exact h1 a' l ha' hl
  · show sn_u σ.1 (49 + a) 0 (100 * b + j) v (49 + a') 0 (100 * b + e) = (if a' = a then sn_up (S.1 a) j v else S.1 a') e
    by_cases z : a' = a
    · subst z
      rw [sn_u_at, if_pos rfl]
      unfold sn_up
      by_cases z : e = j
      · rw [if_pos (by omega), if_pos z]
      · rw [if_neg (by omega), if_neg z]
        exact h2 a' e g1 g2 he
    · rw [if_neg z, sn_u_n (fun y => z (by have := y.1; omega))]
      exact h2 a' e g1 g2 he
  · show sn_u σ.1 (49 + a) 0 (100 * b + j) v 46 0 b = _
    rw [sn_u_n (fun z => by have := z.1; omega)]
    exact h3
  · show sn_u σ.1 (49 + a) 0 (100 * b + j) v 47 0 b = _
    rw [sn_u_n (fun z => by have := z.1; omega)]
    exact h4
  · show sn_u σ.1 (49 + a) 0 (100 * b + j) v 48 0 b = _
    rw [sn_u_n (fun z => by have := z.1; omega)]
    exact h5
theorem my_c {S : sT} {b : Nat} {σ : sn_M} (h : my_v S b σ) {k : Nat} (hk : k = 46 ∨ k = 47 ∨ k = 48) {v : Int} (S' : sT) (h1 : S'.1 = S.1) (h2 : (S'.2.1 : Int) = (if k = 46 then v else (S.2.1 : Int)) ∧ (S'.2.2.1 : Int) = (if k = 47 then v else (S.2.2.1 : Int)) ∧ (S'.2.2.2 : Int) = (if k = 48 then v else (S.2.2.2 : Int))) : my_v S' b (sn_u σ.1 k 0 b v, σ.2) := by
  obtain ⟨g1, g2, g3, g4, g5⟩ := h
  obtain ⟨q1, q2, q3⟩ := h2
  refine ⟨fun a' l ha' hl => ?_, fun a' e g1 g2' he => ?_, ?_, ?_, ?_⟩
  · show sn_u σ.1 k 0 b v (49 + a') 0 (60 * b + l) = _
    rw [sn_u_n (fun z => by have := z.1; omega), h1]
    exact g1 a' l ha' hl
  · show sn_u σ.1 k 0 b v (49 + a') 0 (100 * b + e) = _
    rw [sn_u_n (fun z => by have := z.1; omega), h1]
    exact g2 a' e g1 g2' he
  · show sn_u σ.1 k 0 b v 46 0 b = _
    rw [q1]
    by_cases z : k = 46
    · subst z
      rw [sn_u_at, if_pos rfl, if_pos rfl]
    · rw [if_neg z, sn_u_n (fun y => z y.1.symm)]
      exact g3
  · show sn_u σ.1 k 0 b v 47 0 b = _
    rw [q2]
    by_cases z : k = 47
    · subst z
      rw [sn_u_at, if_pos rfl, if_pos rfl]
    · rw [if_neg z, sn_u_n (fun y => z y.1.symm)]
      exact g4
  · show sn_u σ.1 k 0 b v 48 0 b = _
    rw [q3]
    by_cases z : k = 48
    · subst z
      rw [sn_u_at, if_pos rfl, if_pos rfl]
    · rw [if_neg z, sn_u_n (fun y => z y.1.symm)]
      exact g5
theorem my_e {S S' : sT} {b : Nat} {σ : sn_M} (h : my_v S b σ) (h1 : ∀ a, a < 9 → S'.1 a = S.1 a) (h2 : S'.2 = S.2) : my_v S' b σ := by
  obtain ⟨g1, g2, g3, g4, g5⟩ := h
  refine ⟨fun a l ha hl => ?_, fun a e q1 q2 he => ?_, by rw [h2]; exact g3, by rw [h2]; exact g4, by rw [h2]; exact g5⟩
  · rw [h1 a (by omega)]
    exact g1 a l ha hl
  · rw [h1 a q2]
    exact g2 a e q1 q2 he
/-- reads -/
theorem my_rl {S : sT} {b : Nat} {σ : sn_M} (h : my_v S b σ) {a l k x : Nat} (ha : a < 4) (hl : l < 60) (hk : k = 49 + a) (hx : x = 60 * b + l) : σ.1 k 0 x = S.1 a l := by
  subst hk
  subst hx
  exact h.1 a l ha hl
theorem my_rg {S : sT} {b : Nat} {σ : sn_M} (h : my_v S b σ) {a e k x : Nat} (ha : 4 ≤ a) (ha9 : a < 9) (he : e < 100) (hk : k = 49 + a) (hx : x = 100 * b + e) : σ.1 k 0 x = S.1 a e := by
  subst hk
  subst hx
  exact h.2.1 a e ha ha9 he
def s_aE (S : sT) (t f : Int) : sT := (fun a => match a with
  | 4 => sn_up (S.1 4) S.2.2.1 t
  | 5 => sn_up (S.1 5) S.2.2.1 f
  | 6 => sn_up (S.1 6) S.2.2.1 (-1)
  | 7 => sn_up (S.1 7) S.2.2.1 (-1)
  | a => S.1 a, S.2.1, S.2.2.1 + 1, S.2.2.2)
theorem cp_c {b k : Nat} (hk : k = 46 ∨ k = 47 ∨ k = 48) : cp_P b k 0 b := ⟨rfl, Or.inl ⟨hk, rfl⟩⟩
theorem cp_l {b k j : Nat} (h1 : 49 ≤ k) (h2 : k ≤ 52) (hj : j < 60) {x : Nat} (hx : x = 60 * b + j) : cp_P b k 0 x := ⟨rfl, Or.inr (Or.inl ⟨h1, h2, by omega, by omega⟩)⟩
theorem cp_g {b k j : Nat} (h1 : 53 ≤ k) (h2 : k ≤ 57) (hj : j < 100) {x : Nat} (hx : x = 100 * b + j) : cp_P b k 0 x := ⟨rfl, Or.inr (Or.inr ⟨h1, h2, by omega, by omega⟩)⟩
theorem sn_fr_rf (P : Nat → Nat → Nat → Prop) (σ : sn_M) : sn_fr P σ σ := ⟨rfl, fun _ _ _ _ => rfl⟩
def sp_MD_addEdge : sn_P := fun vs σ po => match vs with
  | [.inr (.inr q), .inl b, .inl t, .inl f] => q = (40, 0) ∧ ∃ (c : Nat) (S : sT), b = (c : Int) ∧ c < 4 ∧ my_v S c σ ∧ S.2.2.1 < 100 ∧ ∀ σ', my_v (s_aE S t f) c σ' → sn_fr (cp_P c) σ σ' → po (some (.inl (S.2.2.1 : Int))) σ'
  | _ => False
def ca_MD_addEdge : List (Nat × Nat × Nat × sn_P) := []
theorem co_MD_addEdge : ∀ x n ci s', sn_lk ca_MD_addEdge x = some (n, ci, s') → sn_CO "SwitchedNetsModel" sn_ws 0 x n ci s' := fun _ _ _ _ h => by cases h
theorem ct_MD_addEdge : sn_CT y_MD_addEdge ws_MD_addEdge 0 sp_MD_addEdge := by
  refine sn_CT_of (pr := pr_MD_addEdge) (fi := (sn_lk ft_MD)) (lc := (sn_lk lc_MD)) (ca := sn_lk ca_MD_addEdge) pl_MD ?_ pk_MD_addEdge FI_MD LC_MD co_MD_addEdge ?_
  · intro vs σ post h
    unfold sp_MD_addEdge at h
    split at h
    · exact Nat.le_of_ble_eq_true rfl
    · exact h.elim
  · intro vs σ post h hvs hR
    unfold sp_MD_addEdge at h
    split at h
    · next q b t f =>
      obtain ⟨rfl, c, S, rfl, hc, hv, hm, h⟩ := h
      intro G hG
      have e1 : σ.1 47 0 c = (S.2.2.1 : Int) := hv.2.2.2.1
      have c0 : (0 : Int) ≤ (c : Int) ∧ (c : Int) < (4 : Nat) := by omega
      have r1 : sn_R (100 * (c : Int)) := by unfold sn_R; omega
      have r2 : sn_R (100 * (c : Int) + σ.1 47 0 c) := by rw [e1]; unfold sn_R; omega
      have i1 : 0 ≤ 100 * (c : Int) + σ.1 47 0 c ∧ 100 * (c : Int) + σ.1 47 0 c < (400 : Nat) := by rw [e1]; omega
      have r3 : sn_R (σ.1 47 0 c + 1) := by rw [e1]; unfold sn_R; omega
      have ix : (100 * (c : Int) + (S.2.2.1 : Int)).toNat = 100 * c + S.2.2.1 := by omega
      refine hG 80 [] _ _ _ _ ?_
      refine And.intro c0 (And.intro r1 (And.intro r2 (And.intro i1 (And.intro r1 (And.intro r2 (And.intro i1 (And.intro r1 (And.intro r2 (And.intro i1 (And.intro r1 (And.intro r2 (And.intro i1 (And.intro r3 (And.intro c0 ?_))))))))))))))
      have v1 := my_g (my_g (my_g (my_g hv 4 S.2.2.1 t (by omega) (by omega) hm (k := 53) rfl ix) 5 S.2.2.1 f (by omega) (by omega) hm (k := 54) rfl ix) 6 S.2.2.1 (-1) (by omega) (by omega) hm (k := 55) rfl ix) 7 S.2.2.1 (-1) (by omega) (by omega) hm (k := 56) rfl ix
      have v2 := my_e (S' := s_aE S t f) (my_c v1 (k := 47) (by omega) (v := (S.2.2.1 : Int) + 1) (_, S.2.1, S.2.2.1 + 1, S.2.2.2) rfl ⟨rfl, rfl, rfl⟩) (fun a ha => by
          match a, ha with
          | 0, _ => rfl
          | 1, _ => rfl
          | 2, _ => rfl
          | 3, _ => rfl
          | 4, _ => rfl
          | 5, _ => rfl
          | 6, _ => rfl
          | 7, _ => rfl
          | 8, _ => rfl
          | a + 9, h => omega) rfl
      have g := h _ v2 (sn_fr_u (sn_fr_u (sn_fr_u (sn_fr_u (sn_fr_u (sn_fr_rf _ σ) (cp_g (by omega) (by omega) hm ix) t) (cp_g (by omega) (by omega) hm ix) f) (cp_g (by omega) (by omega) hm ix) (-1)) (cp_g (by omega) (by omega) hm ix) (-1)) (cp_c (by omega)) _)
      rw [← e1] at g
      exact g
    · exact h.elim
def s_aL (S : sT) (k l r : Int) : sT := (fun a => match a with
  | 0 => sn_up (S.1 0) S.2.1 k
  | 1 => sn_up (S.1 1) S.2.1 l
  | 2 => sn_up (S.1 2) S.2.1 r
  | 3 => sn_up (S.1 3) S.2.1 (-1)
  | 6 => if k = 0 then S.1 6 else sn_up (sn_up (S.1 6) l.toNat (S.2.1 : Int)) r.toNat (S.2.1 : Int)
  | a => S.1 a, S.2.1 + 1, S.2.2.1, S.2.2.2)
def sp_MD_addLink : sn_P := fun vs σ po => match vs with
  | [.inr (.inr q), .inl b, .inl k, .inl l, .inl r] => q = (40, 0) ∧ ∃ (c : Nat) (S : sT), b = (c : Int) ∧ c < 4 ∧ my_v S c σ ∧ S.2.1 < 60 ∧ (¬ k = 0 → (0 ≤ l ∧ l < 100) ∧ 0 ≤ r ∧ r < 100) ∧ ∀ σ', my_v (s_aL S k l r) c σ' → sn_fr (cp_P c) σ σ' → po (some (.inl (S.2.1 : Int))) σ'
  | _ => False
def ca_MD_addLink : List (Nat × Nat × Nat × sn_P) := []
theorem co_MD_addLink : ∀ x n ci s', sn_lk ca_MD_addLink x = some (n, ci, s') → sn_CO "SwitchedNetsModel" sn_ws 0 x n ci s' := fun _ _ _ _ h => by cases h
theorem ct_MD_addLink : sn_CT y_MD_addLink ws_MD_addLink 0 sp_MD_addLink := by
  refine sn_CT_of (pr := pr_MD_addLink) (fi := (sn_lk ft_MD)) (lc := (sn_lk lc_MD)) (ca := sn_lk ca_MD_addLink) pl_MD ?_ pk_MD_addLink FI_MD LC_MD co_MD_addLink ?_
  · intro vs σ post h
    unfold sp_MD_addLink at h
    split at h
    · exact Nat.le_of_ble_eq_true rfl
    · exact h.elim
  · intro vs σ post h hvs hR
    unfold sp_MD_addLink at h
    split at h
    · next q b k l r =>
      obtain ⟨rfl, c, S, rfl, hc, hv, hm, hlr, h⟩ := h
      intro G hG
      have e1 : σ.1 46 0 c = (S.2.1 : Int) := hv.2.2.1
      have c0 : (0 : Int) ≤ (c : Int) ∧ (c : Int) < (4 : Nat) := by omega
      have r1 : sn_R (60 * (c : Int)) := by unfold sn_R; omega
      have r2 : sn_R (60 * (c : Int) + σ.1 46 0 c) := by rw [e1]; unfold sn_R; omega
      have i1 : 0 ≤ 60 * (c : Int) + σ.1 46 0 c ∧ 60 * (c : Int) + σ.1 46 0 c < (240 : Nat) := by rw [e1]; omega
      have r3 : sn_R (σ.1 46 0 c + 1) := by rw [e1]; unfold sn_R; omega
      have ix : (60 * (c : Int) + (S.2.1 : Int)).toNat = 60 * c + S.2.1 := by omega
      have v1 := my_l (my_l (my_l (my_l hv 0 S.2.1 k (by omega) hm (k := 49) rfl ix) 1 S.2.1 l (by omega) hm (k := 50) rfl ix) 2 S.2.1 r (by omega) hm (k := 51) rfl ix) 3 S.2.1 (-1) (by omega) hm (k := 52) rfl ix
      have f1 := sn_fr_u (sn_fr_u (sn_fr_u (sn_fr_u (sn_fr_rf (cp_P c) σ) (cp_l (k := 49) (by omega) (by omega) hm ix) k) (cp_l (k := 50) (by omega) (by omega) hm ix) l) (cp_l (k := 51) (by omega) (by omega) hm ix) r) (cp_l (k := 52) (by omega) (by omega) hm ix) (-1)
      have v2 := my_c v1 (k := 46) (by omega) (v := (S.2.1 : Int) + 1) (_, S.2.1 + 1, S.2.2.1, S.2.2.2) rfl ⟨rfl, rfl, rfl⟩
      have f2 := sn_fr_u f1 (cp_c (b := c) (k := 46) (by omega)) ((S.2.1 : Int) + 1)
      refine hG 90 [] _ _ _ _ ?_
      refine And.intro c0 (And.intro r1 (And.intro r2 (And.intro i1 (And.intro r1 (And.intro r2 (And.intro i1 (And.intro r1 (And.intro r2 (And.intro i1 (And.intro r1 (And.intro r2 (And.intro i1 (And.intro r3 (And.intro c0 ?_))))))))))))))
      refine And.intro (fun k0 => ?_) (fun k0 => ?_)
      · have k0 : k = 0 := k0
        have g := h _ (my_e v2 (fun a ha => by
          match a, ha with
          | 0, _ => rfl
          | 1, _ => rfl
          | 2, _ => rfl
          | 3, _ => rfl
          | 4, _ => rfl
          | 5, _ => rfl
          | 6, _ =>
            show (if k = 0 then S.1 6 else _) = S.1 6
            rw [if_pos k0]
          | 7, _ => rfl
          | 8, _ => rfl
          | a + 9, h => omega) rfl) f2
        rw [← e1] at g
        exact g
      · have k0 : ¬ k = 0 := k0
        obtain ⟨⟨l0, l1⟩, r0, r1'⟩ := hlr k0
        have q1 : sn_R (100 * (c : Int)) := by unfold sn_R; omega
        have q2 : sn_R (100 * (c : Int) + l) := by unfold sn_R; omega
        have q3 : sn_R (100 * (c : Int) + r) := by unfold sn_R; omega
        have q4 : 0 ≤ 100 * (c : Int) + l ∧ 100 * (c : Int) + l < (400 : Nat) := by omega
        have q5 : 0 ≤ 100 * (c : Int) + r ∧ 100 * (c : Int) + r < (400 : Nat) := by omega
        have x1 : (100 * (c : Int) + l).toNat = 100 * c + l.toNat := by omega
        have x2 : (100 * (c : Int) + r).toNat = 100 * c + r.toNat := by omega
        refine And.intro q1 (And.intro q2 (And.intro q4 (And.intro q1 (And.intro q3 (And.intro q5 ?_)))))
        have v3 := my_g (my_g v2 6 l.toNat (S.2.1 : Int) (by omega) (by omega) (by omega) (k := 55) rfl x1) 6 r.toNat (S.2.1 : Int) (by omega) (by omega) (by omega) (k := 55) rfl x2
        have g := h _ (my_e v3 (fun a ha => by
          match a, ha with
          | 0, _ => rfl
          | 1, _ => rfl
          | 2, _ => rfl
          | 3, _ => rfl
          | 4, _ => rfl
          | 5, _ => rfl
          | 6, _ =>
            show (if k = 0 then S.1 6 else sn_up (sn_up (S.1 6) l.toNat (S.2.1 : Int)) r.toNat (S.2.1 : Int)) = sn_up (sn_up (S.1 6) l.toNat (S.2.1 : Int)) r.toNat (S.2.1 : Int)
            rw [if_neg k0]
          | 7, _ => rfl
          | 8, _ => rfl
          | a + 9, h => omega) rfl) (sn_fr_u (sn_fr_u f2 (cp_g (by omega) (by omega) (by omega) x1) _) (cp_g (by omega) (by omega) (by omega) x2) _)
        rw [← e1] at g
        exact g
    · exact h.elim
