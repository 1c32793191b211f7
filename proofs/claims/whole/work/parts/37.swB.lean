/-! The class: the last bit that changes, one level from the next, the level without par links; free edges, completeness. -/
def bt_s (s : Int) (k : Nat) : Prop := sn_and (s / 2 ^ k) 1 = 1
def sp_SW_lastChanged : sn_P := fun vs σ po => match vs with
  | [.inl s, .inl P] => (0 ≤ P ∧ P ≤ 8) ∧ ∀ x : Int, ((∃ k : Nat, (k : Int) < P ∧ x = (k : Int) ∧ bt_s s k ∧ ∀ j, j < k → ¬ bt_s s j) ∨ (x = P - 1 ∧ ∀ k : Nat, (k : Int) < P → ¬ bt_s s k)) → po (some (.inl x)) σ
  | _ => False
def ca_SW_lastChanged : List (Nat × Nat × Nat × sn_P) := []
theorem co_SW_lastChanged : ∀ x n ci s', sn_lk ca_SW_lastChanged x = some (n, ci, s') → sn_CO "SwitchedNets$Switchings" sn_ws 0 x n ci s' := fun _ _ _ _ h => by cases h
theorem ct_SW_lastChanged : sn_CT y_SW_lastChanged ws_SW_lastChanged 0 sp_SW_lastChanged := by
  refine sn_CT_of (pr := pr_SW_lastChanged) (fi := (sn_lk ft_SW)) (lc := sn_no) (ca := sn_lk ca_SW_lastChanged) pl_SW ?_ pk_SW_lastChanged FI_SW (sn_no_ok _) co_SW_lastChanged ?_
  · intro vs σ post h
    unfold sp_SW_lastChanged at h
    split at h
    · exact Nat.le_of_ble_eq_true rfl
    · exact h.elim
  · intro vs σ post h hvs hR
    unfold sp_SW_lastChanged at h
    split at h
    · next s P =>
      obtain ⟨⟨hP0, hP1⟩, h⟩ := h
      intro G hG
      obtain ⟨n, rfl⟩ := Int.eq_ofNat_of_zero_le hP0
      have loop : ∀ (d i : Nat), n - i = d → i ≤ n → (∀ j, j < i → ¬ bt_s s j) → G 2 [some (.inl s), some (.inl (n : Int)), some (.inl (i : Int))] [] σ := by
        intro d
        induction d with
        | zero =>
          intro i hd hi hno
          have e : i = n := by omega
          subst e
          refine hG 60 [2] _ _ _ _ ?_
          refine And.intro (fun c1 => absurd c1 (by show ¬ ((i : Int) < (i : Int)); omega)) (fun _ => And.intro ⟨by omega, by omega⟩ (h _ (Or.inr ⟨rfl, fun k hk => hno k (by omega)⟩)))
        | succ d ih =>
          intro i hd hi hno
          have hr : sn_R ((i : Int) + 1) := ⟨by omega, by omega⟩
          refine hG 60 [2] _ _ _ _ ?_
          refine And.intro (fun c1 => And.intro ⟨by omega, by omega⟩ (And.intro (fun c2 => ?_) (fun c2 => And.intro hr ?_))) (fun c1 => ?_)
          · exact h _ (Or.inl ⟨i, by omega, rfl, c2, hno⟩)
          · refine ih (i + 1) (by omega) (by omega) (fun j hj => ?_)
            by_cases e : j = i
            · subst e; exact c2
            · exact hno j (by omega)
          · have c1 : (n : Int) ≤ (i : Int) := c1
            omega
      refine hG 60 [2] _ _ _ _ ?_
      exact loop n 0 (by omega) (by omega) (fun j hj => by omega)
    · exact h.elim
theorem uf_ext {N : Nat} {p p' : Nat → Int} {j : Nat} {r : Nat → Nat} (h : uf_ok N p j r) (he : ∀ x, x < N → p' x = p x) : uf_ok N p' j r := by
  have hup : ∀ (k x : Nat), x < N → uf_up p' k x = uf_up p k x := by
    intro k
    induction k with
    | zero => intro x _; rfl
    | succ k ih =>
      intro x hx
      rw [uf_up_s, uf_up_s, he x hx]
      exact ih _ (uf_par h hx).1
  refine ⟨fun x hx => by rw [he x hx]; exact h.1 x hx, fun x hx => ?_⟩
  obtain ⟨a1, a2, a3⟩ := h.2 x hx
  exact ⟨a1, by rw [he _ a1]; exact a2, by rw [hup _ _ hx]; exact a3⟩
/-- the premise that a switching chooses: of the par link l, the right one or the left one -/
def cs_ch (σ : sn_M) (i : Nat) (r : Prop) [Decidable r] (l : Nat) : Int := if r then σ.1 12 i l else σ.1 11 i l
def sp_SW_choose : sn_P := fun vs σ po => match vs with
  | [.inr (.inr q), .inr (.inr t), .inl k, .inl rb] => q.1 = 19 ∧ t.1 = 9 ∧ (0 ≤ k ∧ k < 8) ∧ ∃ (N : Nat) (C : Int) (E : List (Nat × Nat)) (l : Nat), N ≤ 60 ∧ (0 ≤ C ∧ C ≤ 60) ∧ σ.1 9 t.2 9 = (N : Int) ∧ σ.1 24 q.2 k.toNat = (l : Int) ∧ l < N ∧ (0 ≤ cs_ch σ t.2 (¬ rb = 0) l ∧ cs_ch σ t.2 (¬ rb = 0) l < 100) ∧ (0 ≤ σ.1 15 t.2 (cs_ch σ t.2 (¬ rb = 0) l).toNat ∧ σ.1 15 t.2 (cs_ch σ t.2 (¬ rb = 0) l).toNat < (N : Int)) ∧
      sw_L σ q.2 N C (k.toNat + 1) E ∧ ∀ σ', sw_L σ' q.2 N C k.toNat (E ++ [((σ.1 15 t.2 (cs_ch σ t.2 (¬ rb = 0) l).toNat).toNat, l)]) → sn_fr (sw_P q.2 k.toNat) σ σ' → po none σ'
  | _ => False
def ca_SW_choose : List (Nat × Nat × Nat × sn_P) := [(67, 4, 6, sp_SW_join), (74, 5, 0, sp_copy)]
theorem co_SW_choose : ∀ x n ci s', sn_lk ca_SW_choose x = some (n, ci, s') → sn_CO "SwitchedNets$Switchings" sn_ws 2 x n ci s' := sn_co_of (List.forall_mem_cons.mpr ⟨sn_CO_V ("SwitchedNets$Switchings", T_SW, 5) ct_SW_join (by decide) (by decide) (sn_gV ml_SW_67 mi_SW_join ms_SW_join mz_SW mc_SW_join) (by decide) rfl rfl ⟨nh_SW.1, nh_SW.2, pn_SW_join⟩, List.forall_mem_cons.mpr ⟨sn_CO_copy (by decide) ml_SW_74 mn_copy mt_copy mz_copy, fun _ h => absurd h List.not_mem_nil⟩⟩)
theorem ct_SW_choose : sn_CT y_SW_choose ws_SW_choose 2 sp_SW_choose := by
  refine sn_CT_of (pr := pr_SW_choose) (fi := (sn_lk ft_SW)) (lc := sn_no) (ca := sn_lk ca_SW_choose) pl_SW ?_ pk_SW_choose FI_SW (sn_no_ok _) co_SW_choose ?_
  · intro vs σ post h
    unfold sp_SW_choose at h
    split at h
    · exact Nat.le_of_ble_eq_true rfl
    · exact h.elim
  · intro vs σ post h hvs hR
    unfold sp_SW_choose at h
    split at h
    · next q t k rb =>
      obtain ⟨a, w⟩ := q
      obtain ⟨a2, i⟩ := t
      obtain ⟨ha, ha2, ⟨hk0, hk1⟩, N, C, E, l, hN, hC, hNl, hpl, hl, hch, hfr, hL, h⟩ := h
      have ha : a = 19 := ha
      subst ha
      have ha2 : a2 = 9 := ha2
      subst ha2
      intro G hG
      obtain ⟨kn, rfl⟩ := Int.eq_ofNat_of_zero_le hk0
      have hNl : σ.1 9 i 9 = (N : Int) := hNl
      have hpl : σ.1 24 w kn = (l : Int) := hpl
      have hL : sw_L σ w N C (kn + 1) E := hL
      have hch : 0 ≤ cs_ch σ i (¬ rb = 0) l ∧ cs_ch σ i (¬ rb = 0) l < 100 := hch
      have hfr : 0 ≤ σ.1 15 i (cs_ch σ i (¬ rb = 0) l).toNat ∧ σ.1 15 i (cs_ch σ i (¬ rb = 0) l).toNat < (N : Int) := hfr
      have h : ∀ σ', sw_L σ' w N C kn (E ++ [((σ.1 15 i (cs_ch σ i (¬ rb = 0) l).toNat).toNat, l)]) → sn_fr (sw_P w kn) σ σ' → post none σ' := h
      obtain ⟨hE, hu, hp, hc⟩ := hL
      have hlt := jn_lt (show 0 < N by omega) hE
      have hk9 : (0 : Int) ≤ (kn : Int) ∧ (kn : Int) < (9 : Nat) := ⟨by omega, by omega⟩
      have hk8 : (0 : Int) ≤ (kn : Int) ∧ (kn : Int) < (8 : Nat) := ⟨by omega, by omega⟩
      have hk1' : sn_R ((kn : Int) + 1) := ⟨by omega, by omega⟩
      have hk19 : (0 : Int) ≤ (kn : Int) + 1 ∧ (kn : Int) + 1 < (9 : Nat) := ⟨by omega, by omega⟩
      have hl60 : (0 : Int) ≤ σ.1 24 w kn ∧ σ.1 24 w kn < (60 : Nat) := ⟨by omega, by omega⟩
      have hln : (σ.1 24 w kn).toNat = l := by rw [hpl]; rfl
      have eN : (σ.1 9 i 9).toNat = N := by rw [hNl]; rfl
      -- the memory when the next level has been copied
      have hc01 : σ.1 23 w (kn + 1) = 0 ∨ σ.1 23 w (kn + 1) = 1 := by
        rw [hc]
        split
        · exact Or.inr rfl
        · exact Or.inl rfl
      generalize hm : (sn_u (sn_u (sn_cp σ.1 21 (9 * w + (kn + 1)) 21 (9 * w + kn) 0 0 (σ.1 9 i 9).toNat) 22 w kn (σ.1 22 w (kn + 1))) 23 w kn (σ.1 23 w (kn + 1)), σ.2) = σ1
      have hfr1 : sn_fr (sw_P w kn) σ σ1 := by
        subst hm
        refine ⟨rfl, fun a b c hn => ?_⟩
        show sn_u (sn_u (sn_cp σ.1 21 (9 * w + (kn + 1)) 21 (9 * w + kn) 0 0 (σ.1 9 i 9).toNat) 22 w kn (σ.1 22 w (kn + 1))) 23 w kn (σ.1 23 w (kn + 1)) a b c = σ.1 a b c
        rw [sn_u_n (fun z => hn (Or.inr (Or.inr ⟨z.1, z.2.1, z.2.2⟩))), sn_u_n (fun z => hn (Or.inr (Or.inl ⟨z.1, z.2.1, z.2.2⟩)))]
        unfold sn_cp
        rw [if_neg (fun z => hn (Or.inl ⟨z.1, z.2.1⟩))]
      have hL1 : sw_L σ1 w N C kn E := by
        refine ⟨hE, uf_ext hu (fun x hx => ?_), ?_, ?_⟩
        · subst hm
          show sn_u (sn_u (sn_cp σ.1 21 (9 * w + (kn + 1)) 21 (9 * w + kn) 0 0 (σ.1 9 i 9).toNat) 22 w kn (σ.1 22 w (kn + 1))) 23 w kn (σ.1 23 w (kn + 1)) 21 (9 * w + kn) x = _
          rw [sn_u_n (fun z => absurd z.1 (by decide)), sn_u_n (fun z => absurd z.1 (by decide))]
          unfold sn_cp
          rw [if_pos ⟨rfl, rfl, by omega, by omega⟩]
          rw [show 0 + (x - 0) = x by omega]
        · subst hm
          show sn_u (sn_u (sn_cp σ.1 21 (9 * w + (kn + 1)) 21 (9 * w + kn) 0 0 (σ.1 9 i 9).toNat) 22 w kn (σ.1 22 w (kn + 1))) 23 w kn (σ.1 23 w (kn + 1)) 22 w kn = _
          rw [sn_u_n (fun z => absurd z.1 (by decide)), sn_u_s]
          exact hp
        · subst hm
          show sn_u (sn_u (sn_cp σ.1 21 (9 * w + (kn + 1)) 21 (9 * w + kn) 0 0 (σ.1 9 i 9).toNat) 22 w kn (σ.1 22 w (kn + 1))) 23 w kn (σ.1 23 w (kn + 1)) 23 w kn = _
          rw [sn_u_s]
          exact hc
      have go : ∀ x : Int, x = cs_ch σ i (¬ rb = 0) l → sn_iv 4 6 sp_SW_join [.inl (σ.1 24 w kn), .inl (σ.1 15 i x.toNat), .inl (kn : Int), .inr (.inr (19, w))] σ1 (fun r S σ' => post none σ') := by
        intro x hx
        subst hx
        refine And.intro rfl (And.intro ⟨by omega, by omega, hfr.1, hl60.1⟩ ⟨N, C, E, hN, hC, hfr.2, by omega, hL1, fun σ' h1 h2 => ?_⟩)
        rw [hln] at h1
        exact h σ' h1 (sn_fr_t hfr1 h2)
      refine hG 60 [] _ _ _ _ ?_
      refine And.intro hk1' (And.intro hk19 (And.intro hk9 (And.intro ⟨by decide, by decide, by show 0 ≤ σ.1 9 i 9; omega, by show 0 + σ.1 9 i 9 ≤ (60 : Nat); omega, by show 0 + σ.1 9 i 9 ≤ (60 : Nat); omega⟩ ?_)))
      refine And.intro hk1' (And.intro hk19 (And.intro hk9 (And.intro hk1' (And.intro hk19 (And.intro hk9 (And.intro ?_ (And.intro hk8 (And.intro (fun c1 => ?_) (fun c1 => ?_)))))))))
      · exact hc01
      · have hb11 : (0 : Int) ≤ σ.1 24 w kn ∧ σ.1 24 w kn < (60 : Nat) := hl60
        have e : cs_ch σ i (¬ rb = 0) l = σ.1 11 i (σ.1 24 w kn).toNat := by
          unfold cs_ch
          rw [if_neg (fun z => z c1), hln]
        refine And.intro hb11 (And.intro (by rw [e] at hch; exact hch) ?_)
        have g := go _ e.symm
        rw [← hm] at g
        exact g
      · have hb11 : (0 : Int) ≤ σ.1 24 w kn ∧ σ.1 24 w kn < (60 : Nat) := hl60
        have e : cs_ch σ i (¬ rb = 0) l = σ.1 12 i (σ.1 24 w kn).toNat := by
          unfold cs_ch
          rw [if_pos c1, hln]
        refine And.intro hb11 (And.intro (by rw [e] at hch; exact hch) ?_)
        have g := go _ e.symm
        rw [← hm] at g
        exact g
    · exact h.elim
