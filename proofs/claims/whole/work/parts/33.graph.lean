/-! The reference: which edges a switching joins, and its graph. -/
def gr_b (kd lf rt to : Nat → Int) (s : Int) (e : Nat) : Bool := decide (kd (to e).toNat ≠ 2) || decide ((e : Int) = if sn_and (s / 2 ^ (cn_ct kd 2 (to e).toNat).toNat) 1 = 1 then rt (to e).toNat else lf (to e).toNat)
def sp_MD_isJoined : sn_P := fun vs σ po => match vs with
  | [.inr (.inr q), .inl b, .inl e, .inl s] => q = (40, 0) ∧ (0 ≤ b ∧ b < 4 ∧ 0 ≤ e ∧ e < 100 ∧ 0 ≤ σ.1 55 0 (100 * b.toNat + e.toNat) ∧ σ.1 55 0 (100 * b.toNat + e.toNat) < 60 ∧ cn_ct (fun l => σ.1 49 0 (60 * b.toNat + l)) 2 (σ.1 55 0 (100 * b.toNat + e.toNat)).toNat < 32) ∧
      po (some (.inl (if gr_b (fun l => σ.1 49 0 (60 * b.toNat + l)) (fun l => σ.1 50 0 (60 * b.toNat + l)) (fun l => σ.1 51 0 (60 * b.toNat + l)) (fun l => σ.1 55 0 (100 * b.toNat + l)) s e.toNat = true then 1 else 0))) σ
  | _ => False
def ca_MD_isJoined : List (Nat × Nat × Nat × sn_P) := []
theorem co_MD_isJoined : ∀ x n ci s', sn_lk ca_MD_isJoined x = some (n, ci, s') → sn_CO "SwitchedNetsModel" sn_ws 0 x n ci s' := fun _ _ _ _ h => by cases h
theorem ct_MD_isJoined : sn_CT y_MD_isJoined ws_MD_isJoined 0 sp_MD_isJoined := by
  refine sn_CT_of (pr := pr_MD_isJoined) (fi := (sn_lk ft_MD)) (lc := (sn_lk lc_MD)) (ca := sn_lk ca_MD_isJoined) pl_MD ?_ pk_MD_isJoined FI_MD LC_MD co_MD_isJoined ?_
  · intro vs σ post h
    unfold sp_MD_isJoined at h
    split at h
    · exact Nat.le_of_ble_eq_true rfl
    · exact h.elim
  · intro vs σ post h hvs hR
    unfold sp_MD_isJoined at h
    split at h
    · next q b e s =>
      obtain ⟨rfl, ⟨hb0, hb1, he0, he1, ht0, ht1, hc⟩, h⟩ := h
      intro G hG
      obtain ⟨bn, rfl⟩ := Int.eq_ofNat_of_zero_le hb0
      obtain ⟨en, rfl⟩ := Int.eq_ofNat_of_zero_le he0
      have hb1 : bn < 4 := by omega
      have he1 : en < 100 := by omega
      have ht0 : 0 ≤ σ.1 55 0 (100 * bn + en) := ht0
      have ht1 : σ.1 55 0 (100 * bn + en) < 60 := ht1
      obtain ⟨t, ht⟩ := Int.eq_ofNat_of_zero_le ht0
      have htn : (σ.1 55 0 (100 * bn + en)).toNat = t := by rw [ht]; rfl
      have hc : cn_ct (fun l => σ.1 49 0 (60 * bn + l)) 2 (σ.1 55 0 (100 * bn + en)).toNat < 32 := hc
      rw [htn] at hc
      have ht2 : t < 60 := by omega
      have h : post (some (.inl (if gr_b (fun l => σ.1 49 0 (60 * bn + l)) (fun l => σ.1 50 0 (60 * bn + l)) (fun l => σ.1 51 0 (60 * bn + l)) (fun l => σ.1 55 0 (100 * bn + l)) s en = true then 1 else 0))) σ := h
      unfold gr_b at h
      simp only [htn] at h
      have q1 : sn_R (100 * (bn : Int)) := ⟨by omega, by omega⟩
      have q2 : sn_R (100 * (bn : Int) + (en : Int)) := ⟨by omega, by omega⟩
      have q3 : (0 : Int) ≤ 100 * (bn : Int) + (en : Int) ∧ 100 * (bn : Int) + (en : Int) < (400 : Nat) := ⟨by omega, by omega⟩
      have r1 : sn_R (60 * (bn : Int)) := ⟨by omega, by omega⟩
      have r2 : sn_R (60 * (bn : Int) + σ.1 55 0 (100 * bn + en)) := ⟨by omega, by omega⟩
      have r3 : (0 : Int) ≤ 60 * (bn : Int) + σ.1 55 0 (100 * bn + en) ∧ 60 * (bn : Int) + σ.1 55 0 (100 * bn + en) < (240 : Nat) := ⟨by omega, by omega⟩
      have hix : (60 * (bn : Int) + σ.1 55 0 (100 * bn + en)).toNat = 60 * bn + t := by omega
      have loop : σ.1 49 0 (60 * bn + t) = 2 → ∀ (d i : Nat), t - i = d → i ≤ t → G 37 [some (.inr (.inr (40, 0))), some (.inl (bn : Int)), some (.inl (en : Int)), some (.inl s), some (.inl (σ.1 55 0 (100 * bn + en))), some (.inl (cn_ct (fun l => σ.1 49 0 (60 * bn + l)) 2 i)), some (.inl (i : Int))] [] σ := by
        intro hk d
        induction d with
        | zero =>
          intro i hd hi
          have e : i = t := by omega
          subst e
          have hcb := cn_ct_b (fun l => σ.1 49 0 (60 * bn + l)) 2 i
          refine hG 60 [37] _ _ _ _ ?_
          refine And.intro (fun c1 => ?_) (fun c1 => And.intro ⟨hcb.1, hc⟩ (And.intro (fun c2 => And.intro r1 (And.intro r2 (And.intro r3 (And.intro (fun c3 => And.intro (Or.inr rfl) ?_) (fun c3 => And.intro (Or.inl rfl) ?_))))) (fun c2 => And.intro r1 (And.intro r2 (And.intro r3 (And.intro (fun c3 => And.intro (Or.inr rfl) ?_) (fun c3 => And.intro (Or.inl rfl) ?_)))))))
          · have c1 : (i : Int) < σ.1 55 0 (100 * bn + en) := c1
            omega
          · have c3 : (en : Int) = σ.1 51 0 (60 * (bn : Int) + σ.1 55 0 (100 * bn + en)).toNat := c3
            have c2 : sn_and (s / 2 ^ (cn_ct (fun l => σ.1 49 0 (60 * bn + l)) 2 i).toNat) 1 = 1 := c2
            rw [hix] at c3
            rw [if_pos (by rw [if_pos c2]; simp [c3])] at h
            exact h
          · have c3 : ¬ (en : Int) = σ.1 51 0 (60 * (bn : Int) + σ.1 55 0 (100 * bn + en)).toNat := c3
            have c2 : sn_and (s / 2 ^ (cn_ct (fun l => σ.1 49 0 (60 * bn + l)) 2 i).toNat) 1 = 1 := c2
            rw [hix] at c3
            rw [if_neg (by rw [if_pos c2]; simp [c3, hk])] at h
            exact h
          · have c3 : (en : Int) = σ.1 50 0 (60 * (bn : Int) + σ.1 55 0 (100 * bn + en)).toNat := c3
            have c2 : ¬ sn_and (s / 2 ^ (cn_ct (fun l => σ.1 49 0 (60 * bn + l)) 2 i).toNat) 1 = 1 := c2
            rw [hix] at c3
            rw [if_pos (by rw [if_neg c2]; simp [c3])] at h
            exact h
          · have c3 : ¬ (en : Int) = σ.1 50 0 (60 * (bn : Int) + σ.1 55 0 (100 * bn + en)).toNat := c3
            have c2 : ¬ sn_and (s / 2 ^ (cn_ct (fun l => σ.1 49 0 (60 * bn + l)) 2 i).toNat) 1 = 1 := c2
            rw [hix] at c3
            rw [if_neg (by rw [if_neg c2]; simp [c3, hk])] at h
            exact h
        | succ d ih =>
          intro i hd hi
          have hr : sn_R ((i : Int) + 1) := ⟨by omega, by omega⟩
          have hcb := cn_ct_b (fun l => σ.1 49 0 (60 * bn + l)) 2 i
          have r4 : sn_R (cn_ct (fun l => σ.1 49 0 (60 * bn + l)) 2 i + 1) := ⟨by omega, by omega⟩
          have r5 : sn_R (60 * (bn : Int) + (i : Int)) := ⟨by omega, by omega⟩
          have r6 : (0 : Int) ≤ 60 * (bn : Int) + (i : Int) ∧ 60 * (bn : Int) + (i : Int) < (240 : Nat) := ⟨by omega, by omega⟩
          have go : ∀ x : Int, x = cn_ct (fun l => σ.1 49 0 (60 * bn + l)) 2 (i + 1) → G 37 [some (.inr (.inr (40, 0))), some (.inl (bn : Int)), some (.inl (en : Int)), some (.inl s), some (.inl (σ.1 55 0 (100 * bn + en))), some (.inl x), some (.inl ((i : Int) + 1))] [] σ := by
            intro x hx
            subst hx
            exact ih (i + 1) (by omega) (by omega)
          refine hG 60 [37] _ _ _ _ ?_
          refine And.intro (fun c1 => And.intro r1 (And.intro r5 (And.intro r6 (And.intro (fun c2 => And.intro r4 (And.intro hr (go _ ?_))) (fun c2 => And.intro hr (go _ ?_)))))) (fun c1 => ?_)
          · have c2 : σ.1 49 0 (60 * bn + i) = 2 := c2
            rw [cn_ct_s, if_pos ⟨by omega, Or.inr c2⟩]
          · have c2 : ¬ σ.1 49 0 (60 * bn + i) = 2 := c2
            rw [cn_ct_s, if_neg (by omega)]
            omega
          · have c1 : σ.1 55 0 (100 * bn + en) ≤ (i : Int) := c1
            omega
      refine hG 60 [37] _ _ _ _ ?_
      refine And.intro q1 (And.intro q2 (And.intro q3 (And.intro r1 (And.intro r2 (And.intro r3 (And.intro (fun c1 => ?_) (fun c1 => And.intro (Or.inr rfl) ?_)))))))
      · have c1 : σ.1 49 0 (60 * (bn : Int) + σ.1 55 0 (100 * bn + en)).toNat = 2 := c1
        rw [hix] at c1
        exact loop c1 t 0 (by omega) (by omega)
      · have c1 : ¬ σ.1 49 0 (60 * (bn : Int) + σ.1 55 0 (100 * bn + en)).toNat = 2 := c1
        rw [hix] at c1
        rw [if_pos (by simp [c1])] at h
        exact h
    · exact h.elim
