/-! The class's structures: reducing a cut. -/
/-- one edge takes the place of another -/
def s_tp (S : sT) (st lv : Int) : sT := (fun x => match x with
  | 0 => S.1 0
  | 1 => if 0 ≤ S.1 6 lv.toNat ∧ S.1 1 (S.1 6 lv.toNat).toNat = lv then sn_up (S.1 1) (S.1 6 lv.toNat).toNat st else S.1 1
  | 2 => if 0 ≤ S.1 6 lv.toNat ∧ ¬ S.1 1 (S.1 6 lv.toNat).toNat = lv then sn_up (S.1 2) (S.1 6 lv.toNat).toNat st else S.1 2
  | 3 => S.1 3
  | 4 => S.1 4
  | 5 => S.1 5
  | 6 => sn_up (S.1 6) st.toNat (S.1 6 lv.toNat)
  | 7 => sn_up (S.1 7) st.toNat (S.1 7 lv.toNat)
  | 8 => if 0 ≤ S.1 7 lv.toNat then sn_up (S.1 8) (S.1 7 lv.toNat).toNat st else S.1 8
  | x + 9 => S.1 (x + 9), S.2)
def sp_ST_takePlace : sn_P := fun vs σ po => match vs with
  | [.inr (.inr q), .inl st, .inl lv] => q.1 = 9 ∧ ∃ S, sx_v (s_X S) q.2 σ ∧ (0 ≤ st ∧ st < 100) ∧ (0 ≤ lv ∧ lv < 100) ∧ (-1 ≤ S.1 6 lv.toNat ∧ S.1 6 lv.toNat < 60) ∧ (-1 ≤ S.1 7 lv.toNat ∧ S.1 7 lv.toNat < 100) ∧ ∀ σ', sx_v (s_X (s_tp S st lv)) q.2 σ' → sx_f q.2 σ σ' → po none σ'
  | _ => False
def ca_ST_takePlace : List (Nat × Nat × Nat × sn_P) := []
theorem co_ST_takePlace : ∀ x n ci s', sn_lk ca_ST_takePlace x = some (n, ci, s') → sn_CO "SwitchedNets$Structure" sn_ws 0 x n ci s' := fun _ _ _ _ h => by cases h
theorem ct_ST_takePlace : sn_CT y_ST_takePlace ws_ST_takePlace 0 sp_ST_takePlace := by
  refine sn_CT_of (pr := pr_ST_takePlace) (fi := (sn_lk ft_ST)) (lc := sn_no) (ca := sn_lk ca_ST_takePlace) pl_ST ?_ pk_ST_takePlace FI_ST (sn_no_ok _) co_ST_takePlace ?_
  · intro vs σ post h
    unfold sp_ST_takePlace at h
    split at h
    · exact Nat.le_of_ble_eq_true rfl
    · exact h.elim
  · intro vs σ post h hvs hR
    unfold sp_ST_takePlace at h
    split at h
    · next q st lv =>
      obtain ⟨a, i⟩ := q
      obtain ⟨ha, S, hv, ⟨s0, s1⟩, ⟨l0, l1⟩, ⟨u0, u1⟩, ⟨n0, n1⟩, h⟩ := h
      have ha : a = 9 := ha
      subst ha
      intro G hG
      have hbs : (0 : Int) ≤ st ∧ st < (100 : Nat) := ⟨s0, by omega⟩
      have hbl : (0 : Int) ≤ lv ∧ lv < (100 : Nat) := ⟨l0, by omega⟩
      have r1 : σ.1 11 i = S.1 1 := hv.1 1 (by omega)
      have r6 : σ.1 16 i = S.1 6 := hv.1 6 (by omega)
      have r7 : σ.1 17 i = S.1 7 := hv.1 7 (by omega)
      -- what follows the choice of left or right
      have fin : ∀ (A B : Nat → Int) (τ : sn_M), sx_v (x_r (x_r (x_r (s_X S) 6 st.toNat (S.1 6 lv.toNat)) 1 0 (S.1 1 0)) 2 0 (S.1 2 0)) i τ ∨ sx_v ((fun x => match x with
          | 1 => A
          | 2 => B
          | 6 => sn_up (S.1 6) st.toNat (S.1 6 lv.toNat)
          | x => S.1 x, (s_X S).2) : sX) i τ → sx_f i σ τ → A = (s_tp S st lv).1 1 → B = (s_tp S st lv).1 2 → τ.1 17 i = S.1 7 → sx_v ((fun x => match x with
          | 1 => A
          | 2 => B
          | 6 => sn_up (S.1 6) st.toNat (S.1 6 lv.toNat)
          | x => S.1 x, (s_X S).2) : sX) i τ → ((0 : Int) ≤ lv ∧ lv < (100 : Nat)) ∧ ((0 : Int) ≤ st ∧ st < (100 : Nat)) ∧ ((0 : Int) ≤ st ∧ st < (100 : Nat)) ∧ (sn_u τ.1 17 i st.toNat (τ.1 17 i lv.toNat) 17 i st.toNat = -1 → post none (sn_u τ.1 17 i st.toNat (τ.1 17 i lv.toNat), τ.2)) ∧ (¬ sn_u τ.1 17 i st.toNat (τ.1 17 i lv.toNat) 17 i st.toNat = -1 → ((0 : Int) ≤ st ∧ st < (100 : Nat)) ∧ ((0 : Int) ≤ sn_u τ.1 17 i st.toNat (τ.1 17 i lv.toNat) 17 i st.toNat ∧ sn_u τ.1 17 i st.toNat (τ.1 17 i lv.toNat) 17 i st.toNat < (100 : Nat)) ∧ post none (sn_u (sn_u τ.1 17 i st.toNat (τ.1 17 i lv.toNat)) 18 i (sn_u τ.1 17 i st.toNat (τ.1 17 i lv.toNat) 17 i st.toNat).toNat st, τ.2)) := by
        intro A B τ _ f eA eB e7 v
        have t7 : sn_u τ.1 17 i st.toNat (τ.1 17 i lv.toNat) 17 i st.toNat = S.1 7 lv.toNat := by rw [sn_u_at, if_pos rfl, e7]
        rw [t7, e7]
        have v2 := sx_r v 7 (k := 17) st.toNat (S.1 7 lv.toNat) rfl
        refine ⟨hbl, hbs, hbs, fun c => ?_, fun c => ⟨hbs, ⟨by omega, by omega⟩, ?_⟩⟩
        · refine h _ (sx_e v2 ⟨rfl, eA.symm, eB.symm, rfl, rfl, rfl, rfl, rfl, ?_⟩ ⟨rfl, rfl, rfl, rfl, rfl, rfl⟩) (sx_f_r f _ (by omega))
          show (if 0 ≤ S.1 7 lv.toNat then sn_up (S.1 8) (S.1 7 lv.toNat).toNat st else S.1 8) = S.1 8
          rw [if_neg (by omega)]
        · have v3 := sx_r v2 8 (k := 18) (S.1 7 lv.toNat).toNat st rfl
          refine h _ (sx_e v3 ⟨rfl, eA.symm, eB.symm, rfl, rfl, rfl, rfl, rfl, ?_⟩ ⟨rfl, rfl, rfl, rfl, rfl, rfl⟩) (sx_f_r (sx_f_r f _ (by omega)) _ (by omega))
          show (if 0 ≤ S.1 7 lv.toNat then sn_up (S.1 8) (S.1 7 lv.toNat).toNat st else S.1 8) = sn_up (S.1 8) (S.1 7 lv.toNat).toNat st
          rw [if_pos (by omega)]
      have e6 : σ.1 16 i lv.toNat = S.1 6 lv.toNat := by rw [r6]
      have v1 := sx_r hv 6 (k := 16) st.toNat (σ.1 16 i lv.toNat) rfl
      have f1 := sx_f_r (sx_f_rf i σ) (k := 16) (j := st.toNat) (σ.1 16 i lv.toNat) (by omega)
      refine hG 90 [] _ _ _ _ ?_
      refine And.intro hbl (And.intro hbs (And.intro (fun c1 => ?_) (fun c1 => ?_)))
      · have c1 : σ.1 16 i lv.toNat = -1 := c1
        have eA : S.1 1 = (s_tp S st lv).1 1 := by
          show S.1 1 = (if 0 ≤ S.1 6 lv.toNat ∧ S.1 1 (S.1 6 lv.toNat).toNat = lv then sn_up (S.1 1) (S.1 6 lv.toNat).toNat st else S.1 1)
          rw [if_neg (fun z => by have := z.1; omega)]
        have eB : S.1 2 = (s_tp S st lv).1 2 := by
          show S.1 2 = (if 0 ≤ S.1 6 lv.toNat ∧ ¬ S.1 1 (S.1 6 lv.toNat).toNat = lv then sn_up (S.1 2) (S.1 6 lv.toNat).toNat st else S.1 2)
          rw [if_neg (fun z => by have := z.1; omega)]
        have vv : sx_v ((fun x => match x with
          | 1 => S.1 1
          | 2 => S.1 2
          | 6 => sn_up (S.1 6) st.toNat (S.1 6 lv.toNat)
          | x => S.1 x, (s_X S).2) : sX) i (sn_u σ.1 16 i st.toNat (σ.1 16 i lv.toNat), σ.2) := sx_e v1 ⟨rfl, rfl, rfl, rfl, rfl, rfl, by rw [e6]; rfl, rfl, rfl⟩ ⟨rfl, rfl, rfl, rfl, rfl, rfl⟩
        exact fin (S.1 1) (S.1 2) _ (Or.inr vv) f1 eA eB r7 vv
      · have c1 : ¬ σ.1 16 i lv.toNat = -1 := c1
        have hbp : (0 : Int) ≤ σ.1 16 i lv.toNat ∧ σ.1 16 i lv.toNat < (60 : Nat) := by rw [e6] at c1 ⊢; omega
        refine And.intro hbp (And.intro (fun c2 => And.intro hbp ?_) (fun c2 => And.intro hbp ?_))
        · have c2 : σ.1 11 i (σ.1 16 i lv.toNat).toNat = lv := c2
          rw [r1, e6] at c2
          have v2 := sx_r v1 1 (k := 11) (σ.1 16 i lv.toNat).toNat st rfl
          have eA : sn_up (S.1 1) (S.1 6 lv.toNat).toNat st = (s_tp S st lv).1 1 := by
            show _ = (if 0 ≤ S.1 6 lv.toNat ∧ S.1 1 (S.1 6 lv.toNat).toNat = lv then sn_up (S.1 1) (S.1 6 lv.toNat).toNat st else S.1 1)
            rw [if_pos ⟨by omega, c2⟩]
          have eB : S.1 2 = (s_tp S st lv).1 2 := by
            show S.1 2 = (if 0 ≤ S.1 6 lv.toNat ∧ ¬ S.1 1 (S.1 6 lv.toNat).toNat = lv then sn_up (S.1 2) (S.1 6 lv.toNat).toNat st else S.1 2)
            rw [if_neg (fun z => z.2 c2)]
          have vv : sx_v ((fun x => match x with
            | 1 => sn_up (S.1 1) (S.1 6 lv.toNat).toNat st
            | 2 => S.1 2
            | 6 => sn_up (S.1 6) st.toNat (S.1 6 lv.toNat)
            | x => S.1 x, (s_X S).2) : sX) i (sn_u (sn_u σ.1 16 i st.toNat (σ.1 16 i lv.toNat)) 11 i (σ.1 16 i lv.toNat).toNat st, σ.2) := sx_e v2 ⟨rfl, by rw [e6]; rfl, rfl, rfl, rfl, rfl, by rw [e6]; rfl, rfl, rfl⟩ ⟨rfl, rfl, rfl, rfl, rfl, rfl⟩
          exact fin _ (S.1 2) _ (Or.inr vv) (sx_f_r f1 _ (by omega)) eA eB r7 vv
        · have c2 : ¬ σ.1 11 i (σ.1 16 i lv.toNat).toNat = lv := c2
          rw [r1, e6] at c2
          have v2 := sx_r v1 2 (k := 12) (σ.1 16 i lv.toNat).toNat st rfl
          have eA : S.1 1 = (s_tp S st lv).1 1 := by
            show S.1 1 = (if 0 ≤ S.1 6 lv.toNat ∧ S.1 1 (S.1 6 lv.toNat).toNat = lv then sn_up (S.1 1) (S.1 6 lv.toNat).toNat st else S.1 1)
            rw [if_neg (fun z => c2 z.2)]
          have eB : sn_up (S.1 2) (S.1 6 lv.toNat).toNat st = (s_tp S st lv).1 2 := by
            show _ = (if 0 ≤ S.1 6 lv.toNat ∧ ¬ S.1 1 (S.1 6 lv.toNat).toNat = lv then sn_up (S.1 2) (S.1 6 lv.toNat).toNat st else S.1 2)
            rw [if_pos ⟨by omega, c2⟩]
          have vv : sx_v ((fun x => match x with
            | 1 => S.1 1
            | 2 => sn_up (S.1 2) (S.1 6 lv.toNat).toNat st
            | 6 => sn_up (S.1 6) st.toNat (S.1 6 lv.toNat)
            | x => S.1 x, (s_X S).2) : sX) i (sn_u (sn_u σ.1 16 i st.toNat (σ.1 16 i lv.toNat)) 12 i (σ.1 16 i lv.toNat).toNat st, σ.2) := sx_e v2 ⟨rfl, rfl, by rw [e6]; rfl, rfl, rfl, rfl, by rw [e6]; rfl, rfl, rfl⟩ ⟨rfl, rfl, rfl, rfl, rfl, rfl⟩
          exact fin (S.1 1) _ _ (Or.inr vv) (sx_f_r f1 _ (by omega)) eA eB r7 vv
    · exact h.elim
