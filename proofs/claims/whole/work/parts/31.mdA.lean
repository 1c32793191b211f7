/-! The reference: counting links, roots, what a switching joins. -/
def cn_ct (f : Nat → Int) (k : Int) (n : Nat) : Int := match n with
  | 0 => 0
  | n + 1 => cn_ct f k n + (if 0 ≤ f n ∧ (k < 0 ∨ f n = k) then 1 else 0)
theorem cn_ct_s (f : Nat → Int) (k : Int) (n : Nat) : cn_ct f k (n + 1) = cn_ct f k n + (if 0 ≤ f n ∧ (k < 0 ∨ f n = k) then 1 else 0) := rfl
theorem cn_ct_b (f : Nat → Int) (k : Int) (n : Nat) : 0 ≤ cn_ct f k n ∧ cn_ct f k n ≤ n := by
  induction n with
  | zero => exact ⟨Int.le_refl _, Int.le_refl _⟩
  | succ n ih =>
    unfold cn_ct
    split <;> constructor <;> omega
def md_ok (σ : sn_M) (b : Nat) : Prop := b < 4 ∧ (0 ≤ σ.1 46 0 b ∧ σ.1 46 0 b ≤ 60) ∧ (0 ≤ σ.1 47 0 b ∧ σ.1 47 0 b ≤ 100)
def sp_MD_count : sn_P := fun vs σ po => match vs with
  | [.inr (.inr q), .inl b, .inl k] => q = (40, 0) ∧ (0 ≤ b ∧ md_ok σ b.toNat) ∧ po (some (.inl (cn_ct (fun l => σ.1 49 0 (60 * b.toNat + l)) k (σ.1 46 0 b.toNat).toNat))) σ
  | _ => False
def ca_MD_count : List (Nat × Nat × Nat × sn_P) := []
theorem co_MD_count : ∀ x n ci s', sn_lk ca_MD_count x = some (n, ci, s') → sn_CO "SwitchedNetsModel" sn_ws 0 x n ci s' := fun _ _ _ _ h => by cases h
theorem ct_MD_count : sn_CT y_MD_count ws_MD_count 0 sp_MD_count := by
  refine sn_CT_of (pr := pr_MD_count) (fi := (sn_lk ft_MD)) (lc := (sn_lk lc_MD)) (ca := sn_lk ca_MD_count) pl_MD ?_ pk_MD_count FI_MD LC_MD co_MD_count ?_
  · intro vs σ post h
    unfold sp_MD_count at h
    split at h
    · exact Nat.le_of_ble_eq_true rfl
    · exact h.elim
  · intro vs σ post h hvs hR
    unfold sp_MD_count at h
    split at h
    · next q b k =>
      obtain ⟨rfl, ⟨hb0, hb4, ⟨hn0, hn1⟩, -⟩, h⟩ := h
      intro G hG
      obtain ⟨bn, rfl⟩ := Int.eq_ofNat_of_zero_le hb0
      obtain ⟨n, hn⟩ := Int.eq_ofNat_of_zero_le hn0
      have hb4 : bn < 4 := hb4
      have hn : σ.1 46 0 bn = (n : Int) := hn
      have hn1 : σ.1 46 0 bn ≤ 60 := hn1
      have h : post (some (.inl (cn_ct (fun l => σ.1 49 0 (60 * bn + l)) k (σ.1 46 0 bn).toNat))) σ := h
      rw [hn] at h
      have hib : (0 : Int) ≤ (bn : Int) ∧ (bn : Int) < (4 : Nat) := ⟨by omega, by omega⟩
      have loop : ∀ (d i : Nat) (o : Option sn_V), n - i = d → i ≤ n → G 5 [some (.inr (.inr (40, 0))), some (.inl (bn : Int)), some (.inl k), some (.inl (cn_ct (fun l => σ.1 49 0 (60 * bn + l)) k i)), some (.inl (i : Int)), o] [] σ := by
        intro d
        induction d with
        | zero =>
          intro i o hd hi
          refine hG 60 [5] _ _ _ _ ?_
          refine And.intro hib (And.intro (fun c1 => ?_) (fun c1 => ?_))
          · have c1 : (i : Int) < σ.1 46 0 bn := c1
            omega
          · have e : i = n := by omega
            subst e
            exact h
        | succ d ih =>
          intro i o hd hi
          have hr : sn_R ((i : Int) + 1) := ⟨by omega, by omega⟩
          have hcb := cn_ct_b (fun l => σ.1 49 0 (60 * bn + l)) k i
          have go : ∀ (x : Int) (o : Option sn_V), x = cn_ct (fun l => σ.1 49 0 (60 * bn + l)) k (i + 1) → G 5 [some (.inr (.inr (40, 0))), some (.inl (bn : Int)), some (.inl k), some (.inl x), some (.inl ((i : Int) + 1)), o] [] σ := by
            intro x o hx
            subst hx
            exact ih (i + 1) o (by omega) (by omega)
          have r1 : sn_R (60 * (bn : Int)) := ⟨by omega, by omega⟩
          have r2 : sn_R (60 * (bn : Int) + (i : Int)) := ⟨by omega, by omega⟩
          have r3 : (0 : Int) ≤ 60 * (bn : Int) + (i : Int) ∧ 60 * (bn : Int) + (i : Int) < (240 : Nat) := ⟨by omega, by omega⟩
          have r4 : sn_R (cn_ct (fun l => σ.1 49 0 (60 * bn + l)) k i + 1) := ⟨by omega, by omega⟩
          refine hG 60 [5] _ _ _ _ ?_
          refine And.intro hib (And.intro (fun c1 => ?_) (fun c1 => ?_))
          · refine And.intro r1 (And.intro r2 (And.intro r3 (And.intro (fun c2 => And.intro hr (go _ _ ?_)) (fun c2 => And.intro (fun c3 => And.intro r4 (And.intro hr (go _ _ ?_))) (fun c3 => And.intro (fun c4 => And.intro r4 (And.intro hr (go _ _ ?_))) (fun c4 => And.intro hr (go _ _ ?_)))))))
            · have c2 : σ.1 49 0 (60 * bn + i) < 0 := c2
              rw [cn_ct_s]
              rw [if_neg (by omega)]
              omega
            · have c2 : 0 ≤ σ.1 49 0 (60 * bn + i) := c2
              have c3 : k < 0 := c3
              rw [cn_ct_s]
              rw [if_pos ⟨c2, Or.inl c3⟩]
            · have c2 : 0 ≤ σ.1 49 0 (60 * bn + i) := c2
              have c4 : σ.1 49 0 (60 * bn + i) = k := c4
              rw [cn_ct_s]
              rw [if_pos ⟨c2, Or.inr c4⟩]
            · have c3 : 0 ≤ k := c3
              have c4 : ¬ σ.1 49 0 (60 * bn + i) = k := c4
              rw [cn_ct_s]
              rw [if_neg (by omega)]
              omega
          · have c1 : σ.1 46 0 bn ≤ (i : Int) := c1
            omega
      refine hG 60 [5] _ _ _ _ ?_
      exact loop n 0 none (by omega) (by omega)
    · exact h.elim
abbrev md_e (σ : sn_M) (b : Nat) (e : Int) : Prop := 0 ≤ e ∧ e < σ.1 47 0 b ∧ 0 ≤ σ.1 53 0 (100 * b + e.toNat)
abbrev md_f (σ : sn_M) (b : Nat) (e : Int) : Prop := md_e σ b e ∧ σ.1 55 0 (100 * b + e.toNat) < 0 ∧ σ.1 56 0 (100 * b + e.toNat) < 0
def sp_MD_isEdge : sn_P := fun vs σ po => match vs with
  | [.inr (.inr q), .inl b, .inl e] => q = (40, 0) ∧ (0 ≤ b ∧ md_ok σ b.toNat) ∧ po (some (.inl (if md_e σ b.toNat e then 1 else 0))) σ
  | _ => False
def ca_MD_isEdge : List (Nat × Nat × Nat × sn_P) := []
theorem co_MD_isEdge : ∀ x n ci s', sn_lk ca_MD_isEdge x = some (n, ci, s') → sn_CO "SwitchedNetsModel" sn_ws 0 x n ci s' := fun _ _ _ _ h => by cases h
theorem ct_MD_isEdge : sn_CT y_MD_isEdge ws_MD_isEdge 0 sp_MD_isEdge := by
  refine sn_CT_of (pr := pr_MD_isEdge) (fi := (sn_lk ft_MD)) (lc := (sn_lk lc_MD)) (ca := sn_lk ca_MD_isEdge) pl_MD ?_ pk_MD_isEdge FI_MD LC_MD co_MD_isEdge ?_
  · intro vs σ post h
    unfold sp_MD_isEdge at h
    split at h
    · exact Nat.le_of_ble_eq_true rfl
    · exact h.elim
  · intro vs σ post h hvs hR
    unfold sp_MD_isEdge at h
    split at h
    · next q b e =>
      obtain ⟨rfl, ⟨hb0, hb4, -, hn0, hn1⟩, h⟩ := h
      intro G hG
      obtain ⟨bn, rfl⟩ := Int.eq_ofNat_of_zero_le hb0
      have hb4 : bn < 4 := hb4
      have hn0 : 0 ≤ σ.1 47 0 bn := hn0
      have hn1 : σ.1 47 0 bn ≤ 100 := hn1
      have h : post (some (.inl (if md_e σ bn e then 1 else 0))) σ := h
      have hib : (0 : Int) ≤ (bn : Int) ∧ (bn : Int) < (4 : Nat) := ⟨by omega, by omega⟩
      refine hG 60 [] _ _ _ _ ?_
      refine And.intro (fun c1 => And.intro (Or.inl rfl) ?_) (fun c1 => And.intro hib (And.intro (fun c2 => ?_) (fun c2 => And.intro (Or.inl rfl) ?_)))
      · rw [if_neg (fun z => by have := z.1; omega)] at h
        exact h
      · have c2 : e < σ.1 47 0 bn := c2
        obtain ⟨en, rfl⟩ := Int.eq_ofNat_of_zero_le c1
        have r1 : sn_R (100 * (bn : Int)) := ⟨by omega, by omega⟩
        have r2 : sn_R (100 * (bn : Int) + (en : Int)) := ⟨by omega, by omega⟩
        have r3 : (0 : Int) ≤ 100 * (bn : Int) + (en : Int) ∧ 100 * (bn : Int) + (en : Int) < (400 : Nat) := ⟨by omega, by omega⟩
        refine And.intro r1 (And.intro r2 (And.intro r3 (And.intro (fun c3 => And.intro (Or.inl rfl) ?_) (fun c3 => And.intro (Or.inr rfl) ?_))))
        · have c3 : σ.1 53 0 (100 * bn + en) < 0 := c3
          rw [if_neg (fun z => by have z3 : 0 ≤ σ.1 53 0 (100 * bn + en) := z.2.2; omega)] at h
          exact h
        · have c3 : 0 ≤ σ.1 53 0 (100 * bn + en) := c3
          rw [if_pos ⟨c1, c2, c3⟩] at h
          exact h
      · have c2 : σ.1 47 0 bn ≤ e := c2
        rw [if_neg (fun z => by have := z.2.1; omega)] at h
        exact h
    · exact h.elim
def sp_MD_isFree : sn_P := fun vs σ po => match vs with
  | [.inr (.inr q), .inl b, .inl e] => q = (40, 0) ∧ (0 ≤ b ∧ md_ok σ b.toNat) ∧ po (some (.inl (if md_f σ b.toNat e then 1 else 0))) σ
  | _ => False
def ca_MD_isFree : List (Nat × Nat × Nat × sn_P) := [(108, 3, 8, sp_MD_isEdge)]
theorem co_MD_isFree : ∀ x n ci s', sn_lk ca_MD_isFree x = some (n, ci, s') → sn_CO "SwitchedNetsModel" sn_ws 1 x n ci s' := sn_co_of (List.forall_mem_cons.mpr ⟨sn_CO_V ("SwitchedNetsModel", T_MD, 29) ct_MD_isEdge (by decide) (by decide) (sn_gV ml_MD_108 mi_MD_isEdge ms_MD_isEdge mz_MD mc_MD_isEdge) (by decide) rfl rfl ⟨nh_MD.1, nh_MD.2, pn_MD_isEdge⟩, fun _ h => absurd h List.not_mem_nil⟩)
theorem ct_MD_isFree : sn_CT y_MD_isFree ws_MD_isFree 1 sp_MD_isFree := by
  refine sn_CT_of (pr := pr_MD_isFree) (fi := (sn_lk ft_MD)) (lc := (sn_lk lc_MD)) (ca := sn_lk ca_MD_isFree) pl_MD ?_ pk_MD_isFree FI_MD LC_MD co_MD_isFree ?_
  · intro vs σ post h
    unfold sp_MD_isFree at h
    split at h
    · exact Nat.le_of_ble_eq_true rfl
    · exact h.elim
  · intro vs σ post h hvs hR
    unfold sp_MD_isFree at h
    split at h
    · next q b e =>
      obtain ⟨rfl, ⟨hb0, hok⟩, h⟩ := h
      intro G hG
      have hok2 := hok
      obtain ⟨hb4, -, hn0, hn1⟩ := hok2
      obtain ⟨bn, rfl⟩ := Int.eq_ofNat_of_zero_le hb0
      have hb4 : bn < 4 := hb4
      have hn1 : σ.1 47 0 bn ≤ 100 := hn1
      have h : post (some (.inl (if md_f σ bn e then 1 else 0))) σ := h
      refine hG 60 [] _ _ _ _ ?_
      refine And.intro rfl (And.intro ⟨hb0, hok⟩ ?_)
      by_cases he : md_e σ bn e
      · rw [show (if md_e σ (Int.toNat (bn : Int)) e then (1 : Int) else 0) = 1 from if_pos he]
        obtain ⟨c1, c2, c3⟩ := he
        obtain ⟨en, rfl⟩ := Int.eq_ofNat_of_zero_le c1
        have r1 : sn_R (100 * (bn : Int)) := ⟨by omega, by omega⟩
        have r2 : sn_R (100 * (bn : Int) + (en : Int)) := ⟨by omega, by omega⟩
        have r3 : (0 : Int) ≤ 100 * (bn : Int) + (en : Int) ∧ 100 * (bn : Int) + (en : Int) < (400 : Nat) := ⟨by omega, by omega⟩
        refine And.intro (fun z => absurd z (by decide)) (fun _ => And.intro r1 (And.intro r2 (And.intro r3 (And.intro (fun c4 => And.intro r1 (And.intro r2 (And.intro r3 (And.intro (fun c5 => And.intro (Or.inr rfl) ?_) (fun c5 => And.intro (Or.inl rfl) ?_))))) (fun c4 => And.intro (Or.inl rfl) ?_)))))
        · rw [if_pos ⟨⟨c1, c2, c3⟩, c4, c5⟩] at h
          exact h
        · have c5 : 0 ≤ σ.1 56 0 (100 * bn + en) := c5
          rw [if_neg (fun z => by have z3 : σ.1 56 0 (100 * bn + en) < 0 := z.2.2; omega)] at h
          exact h
        · have c4 : 0 ≤ σ.1 55 0 (100 * bn + en) := c4
          rw [if_neg (fun z => by have z3 : σ.1 55 0 (100 * bn + en) < 0 := z.2.1; omega)] at h
          exact h
      · rw [show (if md_e σ (Int.toNat (bn : Int)) e then (1 : Int) else 0) = 0 from if_neg he]
        rw [if_neg (fun z => he z.1)] at h
        exact And.intro (fun _ => And.intro (Or.inl rfl) h) (fun z => absurd rfl z)
    · exact h.elim
