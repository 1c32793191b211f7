/-! The class: free edges, completeness; the level without par links. -/
abbrev cs_e (σ : sn_M) (i : Nat) (e : Int) : Prop := 0 ≤ e ∧ e < σ.1 9 i 10 ∧ ¬ σ.1 14 i e.toNat = -1
abbrev cs_f (σ : sn_M) (i : Nat) (e : Int) : Prop := cs_e σ i e ∧ σ.1 16 i e.toNat = -1 ∧ σ.1 17 i e.toNat = -1
def sp_ST_hasEdge : sn_P := fun vs σ po => match vs with
  | [.inr (.inr q), .inl e] => q.1 = 9 ∧ σ.1 9 q.2 10 ≤ 100 ∧ po (some (.inl (if cs_e σ q.2 e then 1 else 0))) σ
  | _ => False
def ca_ST_hasEdge : List (Nat × Nat × Nat × sn_P) := []
theorem co_ST_hasEdge : ∀ x n ci s', sn_lk ca_ST_hasEdge x = some (n, ci, s') → sn_CO "SwitchedNets$Structure" sn_ws 0 x n ci s' := fun _ _ _ _ h => by cases h
theorem ct_ST_hasEdge : sn_CT y_ST_hasEdge ws_ST_hasEdge 0 sp_ST_hasEdge := by
  refine sn_CT_of (pr := pr_ST_hasEdge) (fi := (sn_lk ft_ST)) (lc := sn_no) (ca := sn_lk ca_ST_hasEdge) pl_ST ?_ pk_ST_hasEdge FI_ST (sn_no_ok _) co_ST_hasEdge ?_
  · intro vs σ post h
    unfold sp_ST_hasEdge at h
    split at h
    · exact Nat.le_of_ble_eq_true rfl
    · exact h.elim
  · intro vs σ post h hvs hR
    unfold sp_ST_hasEdge at h
    split at h
    · next q e =>
      obtain ⟨a, i⟩ := q
      obtain ⟨ha, hn, h⟩ := h
      have ha : a = 9 := ha
      subst ha
      intro G hG
      have hn : σ.1 9 i 10 ≤ 100 := hn
      have h : post (some (.inl (if cs_e σ i e then 1 else 0))) σ := h
      refine hG 60 [] _ _ _ _ ?_
      refine And.intro (fun c1 => And.intro (Or.inl rfl) ?_) (fun c1 => And.intro (fun c2 => ?_) (fun c2 => And.intro (Or.inl rfl) ?_))
      · rw [if_neg (fun z => by have := z.1; omega)] at h
        exact h
      · have c2 : e < σ.1 9 i 10 := c2
        have hb : (0 : Int) ≤ e ∧ e < (100 : Nat) := ⟨c1, by omega⟩
        refine And.intro hb (And.intro (fun c3 => And.intro (Or.inl rfl) ?_) (fun c3 => And.intro (Or.inr rfl) ?_))
        · rw [if_neg (fun z => z.2.2 c3)] at h
          exact h
        · rw [if_pos ⟨c1, c2, c3⟩] at h
          exact h
      · have c2 : σ.1 9 i 10 ≤ e := c2
        rw [if_neg (fun z => by have := z.2.1; omega)] at h
        exact h
    · exact h.elim
def sp_ST_isFree : sn_P := fun vs σ po => match vs with
  | [.inr (.inr q), .inl e] => q.1 = 9 ∧ σ.1 9 q.2 10 ≤ 100 ∧ po (some (.inl (if cs_f σ q.2 e then 1 else 0))) σ
  | _ => False
def ca_ST_isFree : List (Nat × Nat × Nat × sn_P) := [(64, 2, 5, sp_ST_hasEdge)]
theorem co_ST_isFree : ∀ x n ci s', sn_lk ca_ST_isFree x = some (n, ci, s') → sn_CO "SwitchedNets$Structure" sn_ws 1 x n ci s' := sn_co_of (List.forall_mem_cons.mpr ⟨sn_CO_V ("SwitchedNets$Structure", T_ST, 15) ct_ST_hasEdge (by decide) (by decide) (sn_gV ml_ST_64 mi_ST_hasEdge ms_ST_hasEdge mz_ST mc_ST_hasEdge) (by decide) rfl rfl ⟨nh_ST.1, nh_ST.2, pn_ST_hasEdge⟩, fun _ h => absurd h List.not_mem_nil⟩)
theorem ct_ST_isFree : sn_CT y_ST_isFree ws_ST_isFree 1 sp_ST_isFree := by
  refine sn_CT_of (pr := pr_ST_isFree) (fi := (sn_lk ft_ST)) (lc := sn_no) (ca := sn_lk ca_ST_isFree) pl_ST ?_ pk_ST_isFree FI_ST (sn_no_ok _) co_ST_isFree ?_
  · intro vs σ post h
    unfold sp_ST_isFree at h
    split at h
    · exact Nat.le_of_ble_eq_true rfl
    · exact h.elim
  · intro vs σ post h hvs hR
    unfold sp_ST_isFree at h
    split at h
    · next q e =>
      obtain ⟨a, i⟩ := q
      obtain ⟨ha, hn, h⟩ := h
      have ha : a = 9 := ha
      subst ha
      intro G hG
      have hn : σ.1 9 i 10 ≤ 100 := hn
      have h : post (some (.inl (if cs_f σ i e then 1 else 0))) σ := h
      refine hG 60 [] _ _ _ _ ?_
      refine And.intro rfl (And.intro hn ?_)
      by_cases he : cs_e σ i e
      · rw [show (if cs_e σ i e then (1 : Int) else 0) = 1 from if_pos he]
        have hb : (0 : Int) ≤ e ∧ e < (100 : Nat) := ⟨he.1, by have := he.2.1; omega⟩
        refine And.intro (fun z => absurd z (by decide)) (fun _ => And.intro hb (And.intro (fun c1 => And.intro hb (And.intro (fun c2 => And.intro (Or.inr rfl) ?_) (fun c2 => And.intro (Or.inl rfl) ?_))) (fun c1 => And.intro (Or.inl rfl) ?_)))
        · rw [if_pos ⟨he, c1, c2⟩] at h
          exact h
        · rw [if_neg (fun z => c2 z.2.2)] at h
          exact h
        · rw [if_neg (fun z => c1 z.2.1)] at h
          exact h
      · rw [show (if cs_e σ i e then (1 : Int) else 0) = 0 from if_neg he]
        rw [if_neg (fun z => he z.1)] at h
        exact And.intro (fun _ => And.intro (Or.inl rfl) h) (fun z => absurd rfl z)
    · exact h.elim
def cs_cp (σ : sn_M) (i : Nat) : Prop := 0 < σ.1 9 i 11 ∧ ∀ e : Nat, (e : Int) < σ.1 9 i 10 → ¬ cs_f σ i (e : Int)
def sp_ST_isComplete : sn_P := fun vs σ po => match vs with
  | [.inr (.inr q)] => q.1 = 9 ∧ (0 ≤ σ.1 9 q.2 10 ∧ σ.1 9 q.2 10 ≤ 100) ∧ ∀ x : Int, (x = 1 ∧ cs_cp σ q.2) ∨ (x = 0 ∧ ¬ cs_cp σ q.2) → po (some (.inl x)) σ
  | _ => False
def ca_ST_isComplete : List (Nat × Nat × Nat × sn_P) := [(68, 2, 5, sp_ST_isFree)]
theorem co_ST_isComplete : ∀ x n ci s', sn_lk ca_ST_isComplete x = some (n, ci, s') → sn_CO "SwitchedNets$Structure" sn_ws 2 x n ci s' := sn_co_of (List.forall_mem_cons.mpr ⟨sn_CO_V ("SwitchedNets$Structure", T_ST, 15) ct_ST_isFree (by decide) (by decide) (sn_gV ml_ST_68 mi_ST_isFree ms_ST_isFree mz_ST mc_ST_isFree) (by decide) rfl rfl ⟨nh_ST.1, nh_ST.2, pn_ST_isFree⟩, fun _ h => absurd h List.not_mem_nil⟩)
theorem ct_ST_isComplete : sn_CT y_ST_isComplete ws_ST_isComplete 2 sp_ST_isComplete := by
  refine sn_CT_of (pr := pr_ST_isComplete) (fi := (sn_lk ft_ST)) (lc := sn_no) (ca := sn_lk ca_ST_isComplete) pl_ST ?_ pk_ST_isComplete FI_ST (sn_no_ok _) co_ST_isComplete ?_
  · intro vs σ post h
    unfold sp_ST_isComplete at h
    split at h
    · exact Nat.le_of_ble_eq_true rfl
    · exact h.elim
  · intro vs σ post h hvs hR
    unfold sp_ST_isComplete at h
    split at h
    · next q =>
      obtain ⟨a, i⟩ := q
      obtain ⟨ha, ⟨hn0, hn1⟩, h⟩ := h
      have ha : a = 9 := ha
      subst ha
      intro G hG
      have hn0 : 0 ≤ σ.1 9 i 10 := hn0
      have hn1 : σ.1 9 i 10 ≤ 100 := hn1
      obtain ⟨n, hn⟩ := Int.eq_ofNat_of_zero_le hn0
      have h : ∀ x : Int, (x = 1 ∧ cs_cp σ i) ∨ (x = 0 ∧ ¬ cs_cp σ i) → post (some (.inl x)) σ := h
      have loop : ∀ (d j : Nat), n - j = d → j ≤ n → (∀ e : Nat, e < j → ¬ cs_f σ i (e : Int)) → G 2 [some (.inr (.inr (9, i))), some (.inl (j : Int))] [] σ := by
        intro d
        induction d with
        | zero =>
          intro j hd hj hno
          refine hG 60 [2] _ _ _ _ ?_
          refine And.intro (fun c1 => ?_) (fun c1 => And.intro (fun c2 => And.intro (Or.inl rfl) (h 0 (Or.inr ⟨rfl, fun z => ?_⟩))) (fun c2 => And.intro (Or.inr rfl) (h 1 (Or.inl ⟨rfl, c2, fun e he => hno e (by omega)⟩))))
          · have c1 : (j : Int) < σ.1 9 i 10 := c1
            omega
          · have c2 : σ.1 9 i 11 ≤ 0 := c2
            have := z.1
            omega
        | succ d ih =>
          intro j hd hj hno
          have hr : sn_R ((j : Int) + 1) := ⟨by omega, by omega⟩
          refine hG 60 [2] _ _ _ _ ?_
          refine And.intro (fun c1 => And.intro rfl (And.intro hn1 ?_)) (fun c1 => ?_)
          · by_cases hf : cs_f σ i (j : Int)
            · rw [show (if cs_f σ i (j : Int) then (1 : Int) else 0) = 1 from if_pos hf]
              exact And.intro (fun z => absurd z (by decide)) (fun _ => And.intro (Or.inl rfl) (h 0 (Or.inr ⟨rfl, fun z => z.2 j (by omega) hf⟩)))
            · rw [show (if cs_f σ i (j : Int) then (1 : Int) else 0) = 0 from if_neg hf]
              refine And.intro (fun _ => And.intro hr (ih (j + 1) (by omega) (by omega) (fun e he => ?_))) (fun z => absurd rfl z)
              by_cases hej : e = j
              · subst hej; exact hf
              · exact hno e (by omega)
          · have c1 : σ.1 9 i 10 ≤ (j : Int) := c1
            omega
      refine hG 60 [2] _ _ _ _ ?_
      exact loop n 0 (by omega) (by omega) (fun e he => by omega)
    · exact h.elim
/-- the edges that no switching changes; the par links in their order -/
def cs_B (kd lf rt fr : Nat → Int) (n : Nat) : List (Nat × Nat) := match n with
  | 0 => []
  | n + 1 => cs_B kd lf rt fr n ++ (if kd n = 1 ∨ kd n = 3 then [((fr (lf n).toNat).toNat, n), ((fr (rt n).toNat).toNat, n)] else [])
theorem cs_B_s (kd lf rt fr : Nat → Int) (n : Nat) : cs_B kd lf rt fr (n + 1) = cs_B kd lf rt fr n ++ (if kd n = 1 ∨ kd n = 3 then [((fr (lf n).toNat).toNat, n), ((fr (rt n).toNat).toNat, n)] else []) := rfl
def cs_pl (kd : Nat → Int) (n : Nat) : List Nat := match n with
  | 0 => []
  | n + 1 => cs_pl kd n ++ (if kd n = 2 then [n] else [])
theorem cs_pl_s (kd : Nat → Int) (n : Nat) : cs_pl kd (n + 1) = cs_pl kd n ++ (if kd n = 2 then [n] else []) := rfl
theorem cs_pl_l (kd : Nat → Int) (n : Nat) : ((cs_pl kd n).length : Int) = cn_ct kd 2 n := by
  induction n with
  | zero => rfl
  | succ n ih =>
    rw [cs_pl_s, cn_ct_s, List.length_append]
    by_cases h : kd n = 2
    · rw [if_pos h, if_pos ⟨by omega, Or.inr h⟩, ← ih]
      show (((cs_pl kd n).length + 1 : Nat) : Int) = _
      omega
    · rw [if_neg h, if_neg (by omega), ← ih]
      show (((cs_pl kd n).length + 0 : Nat) : Int) = _
      omega
theorem cs_pl_in (kd : Nat → Int) (n : Nat) : ∀ l, l ∈ cs_pl kd n ↔ l < n ∧ kd l = 2 := by
  induction n with
  | zero => intro l; simp [cs_pl]
  | succ n ih =>
    intro l
    rw [cs_pl_s, List.mem_append, ih]
    by_cases h : kd n = 2
    · rw [if_pos h, List.mem_singleton]
      constructor
      · rintro (h1 | h1)
        · exact ⟨by omega, h1.2⟩
        · subst h1; exact ⟨by omega, h⟩
      · intro h1
        by_cases e : l = n
        · exact Or.inr e
        · exact Or.inl ⟨by omega, h1.2⟩
    · rw [if_neg h]
      constructor
      · rintro (h1 | h1)
        · exact ⟨by omega, h1.2⟩
        · cases h1
      · intro h1
        refine Or.inl ⟨?_, h1.2⟩
        by_cases e : l = n
        · subst e; exact absurd h1.2 h
        · omega
theorem cn_ct_mono (f : Nat → Int) (k : Int) {m n : Nat} (h : m ≤ n) : cn_ct f k m ≤ cn_ct f k n := by
  induction n with
  | zero => rw [show m = 0 by omega]; exact Int.le_refl _
  | succ n ih =>
    by_cases e : m = n + 1
    · subst e; exact Int.le_refl _
    · have := ih (by omega)
      rw [cn_ct_s]
      split <;> omega
/-- what a structure of the class must be for its switchings to be gone through -/
def st_in (σ : sn_M) (i : Nat) : Prop := (0 ≤ σ.1 9 i 9 ∧ σ.1 9 i 9 ≤ 60) ∧ (0 ≤ σ.1 9 i 11 ∧ σ.1 9 i 11 ≤ 60) ∧ (σ.1 9 i 12 = cn_ct (σ.1 10 i) 2 (σ.1 9 i 9).toNat ∧ σ.1 9 i 12 ≤ 8) ∧
  ∀ l : Nat, (l : Int) < σ.1 9 i 9 → 1 ≤ σ.1 10 i l → (0 ≤ σ.1 11 i l ∧ σ.1 11 i l < 100) ∧ (0 ≤ σ.1 12 i l ∧ σ.1 12 i l < 100) ∧ (0 ≤ σ.1 15 i (σ.1 11 i l).toNat ∧ σ.1 15 i (σ.1 11 i l).toNat < σ.1 9 i 9) ∧ (0 ≤ σ.1 15 i (σ.1 12 i l).toNat ∧ σ.1 15 i (σ.1 12 i l).toNat < σ.1 9 i 9)
def sw_Q (w P : Nat) (a b c : Nat) : Prop := (a = 21 ∧ b = 9 * w + P) ∨ (a = 22 ∧ b = w ∧ c = P) ∨ (a = 23 ∧ b = w ∧ c = P) ∨ (a = 24 ∧ b = w)
def sp_SW_joinWithoutPars : sn_P := fun vs σ po => match vs with
  | [.inr (.inr q), .inr (.inr t)] => q.1 = 19 ∧ t.1 = 9 ∧ st_in σ t.2 ∧ ∀ σ', sw_L σ' q.2 (σ.1 9 t.2 9).toNat (σ.1 9 t.2 11) (σ.1 9 t.2 12).toNat (cs_B (σ.1 10 t.2) (σ.1 11 t.2) (σ.1 12 t.2) (σ.1 15 t.2) (σ.1 9 t.2 9).toNat) →
      (∀ (k l : Nat), (cs_pl (σ.1 10 t.2) (σ.1 9 t.2 9).toNat)[k]? = some l → σ'.1 24 q.2 k = (l : Int)) → sn_fr (sw_Q q.2 (σ.1 9 t.2 12).toNat) σ σ' → po none σ'
  | _ => False
theorem sn_u_k {k k' : Nat} (h : k' ≠ k) (f : Nat → Nat → Nat → Int) (i j : Nat) (x : Int) (i' j' : Nat) : sn_u f k i j x k' i' j' = f k' i' j' := sn_u_n (fun z => h z.1)
theorem sw_L_fr {σ σ' : sn_M} {w N : Nat} {C : Int} {k : Nat} {E : List (Nat × Nat)} (h : sw_L σ w N C k E) (h1 : ∀ x, σ'.1 21 (9 * w + k) x = σ.1 21 (9 * w + k) x) (h2 : σ'.1 22 w k = σ.1 22 w k) (h3 : σ'.1 23 w k = σ.1 23 w k) : sw_L σ' w N C k E := by
  obtain ⟨a, b, c, d⟩ := h
  refine ⟨a, ?_, by rw [h2]; exact c, by rw [h3]; exact d⟩
  rw [show σ'.1 21 (9 * w + k) = σ.1 21 (9 * w + k) from funext h1]
  exact b
def ca_SW_joinWithoutPars : List (Nat × Nat × Nat × sn_P) := [(67, 4, 6, sp_SW_join)]
theorem co_SW_joinWithoutPars : ∀ x n ci s', sn_lk ca_SW_joinWithoutPars x = some (n, ci, s') → sn_CO "SwitchedNets$Switchings" sn_ws 2 x n ci s' := sn_co_of (List.forall_mem_cons.mpr ⟨sn_CO_V ("SwitchedNets$Switchings", T_SW, 5) ct_SW_join (by decide) (by decide) (sn_gV ml_SW_67 mi_SW_join ms_SW_join mz_SW mc_SW_join) (by decide) rfl rfl ⟨nh_SW.1, nh_SW.2, pn_SW_join⟩, fun _ h => absurd h List.not_mem_nil⟩)
theorem ct_SW_joinWithoutPars : sn_CT y_SW_joinWithoutPars ws_SW_joinWithoutPars 2 sp_SW_joinWithoutPars := by
  refine sn_CT_of (pr := pr_SW_joinWithoutPars) (fi := (sn_lk ft_SW)) (lc := sn_no) (ca := sn_lk ca_SW_joinWithoutPars) pl_SW ?_ pk_SW_joinWithoutPars FI_SW (sn_no_ok _) co_SW_joinWithoutPars ?_
  · intro vs σ post h
    unfold sp_SW_joinWithoutPars at h
    split at h
    · exact Nat.le_of_ble_eq_true rfl
    · exact h.elim
  · intro vs σ post h hvs hR
    unfold sp_SW_joinWithoutPars at h
    split at h
    · next q t =>
      obtain ⟨a, w⟩ := q
      obtain ⟨a2, i⟩ := t
      obtain ⟨ha, ha2, ⟨⟨hN0, hN1⟩, ⟨hC0, hC1⟩, ⟨hPe, hP8⟩, hlk⟩, h⟩ := h
      have ha : a = 19 := ha
      subst ha
      have ha2 : a2 = 9 := ha2
      subst ha2
      intro G hG
      have hN0 : 0 ≤ σ.1 9 i 9 := hN0
      have hN1 : σ.1 9 i 9 ≤ 60 := hN1
      have hC0 : 0 ≤ σ.1 9 i 11 := hC0
      have hC1 : σ.1 9 i 11 ≤ 60 := hC1
      have hPe : σ.1 9 i 12 = cn_ct (σ.1 10 i) 2 (σ.1 9 i 9).toNat := hPe
      have hP8 : σ.1 9 i 12 ≤ 8 := hP8
      obtain ⟨N, hN⟩ := Int.eq_ofNat_of_zero_le hN0
      have hP0 : 0 ≤ σ.1 9 i 12 := by rw [hPe]; exact (cn_ct_b _ _ _).1
      obtain ⟨P, hP⟩ := Int.eq_ofNat_of_zero_le hP0
      have hlk : ∀ l : Nat, (l : Int) < σ.1 9 i 9 → 1 ≤ σ.1 10 i l → (0 ≤ σ.1 11 i l ∧ σ.1 11 i l < 100) ∧ (0 ≤ σ.1 12 i l ∧ σ.1 12 i l < 100) ∧ (0 ≤ σ.1 15 i (σ.1 11 i l).toNat ∧ σ.1 15 i (σ.1 11 i l).toNat < σ.1 9 i 9) ∧ (0 ≤ σ.1 15 i (σ.1 12 i l).toNat ∧ σ.1 15 i (σ.1 12 i l).toNat < σ.1 9 i 9) := hlk
      have h : ∀ σ', sw_L σ' w (σ.1 9 i 9).toNat (σ.1 9 i 11) (σ.1 9 i 12).toNat (cs_B (σ.1 10 i) (σ.1 11 i) (σ.1 12 i) (σ.1 15 i) (σ.1 9 i 9).toNat) →
        (∀ (k l : Nat), (cs_pl (σ.1 10 i) (σ.1 9 i 9).toNat)[k]? = some l → σ'.1 24 w k = (l : Int)) → sn_fr (sw_Q w (σ.1 9 i 12).toNat) σ σ' → post none σ' := h
      have eN : (σ.1 9 i 9).toNat = N := by rw [hN]; rfl
      have eP : (σ.1 9 i 12).toNat = P := by rw [hP]; rfl
      rw [eN, eP] at h
      rw [eN] at hPe
      have hP9 : (0 : Int) ≤ σ.1 9 i 12 ∧ σ.1 9 i 12 < (9 : Nat) := ⟨hP0, by omega⟩
      -- what stays as it is
      have st : ∀ {σ1 : sn_M}, sn_fr (sw_Q w P) σ σ1 → ∀ (a c : Nat), a < 19 → σ1.1 a i c = σ.1 a i c := fun hf a c ha => hf.2 a i c (fun z => by rcases z with z | z | z | z <;> (have := z.1; omega))
      have loop2 : ∀ (d j : Nat) (σ1 : sn_M), N - j = d → j ≤ N → sw_L σ1 w N (σ.1 9 i 11) P (cs_B (σ.1 10 i) (σ.1 11 i) (σ.1 12 i) (σ.1 15 i) j) → (∀ (k l : Nat), (cs_pl (σ.1 10 i) j)[k]? = some l → σ1.1 24 w k = (l : Int)) → sn_fr (sw_Q w P) σ σ1 →
          G 56 [some (.inr (.inr (19, w))), some (.inr (.inr (9, i))), some (.inl (σ.1 9 i 12)), some (.inl ((cs_pl (σ.1 10 i) j).length : Nat)), some (.inl (j : Int))] [] σ1 := by
        intro d
        induction d with
        | zero =>
          intro j σ1 hd hj hL hpl hf
          have e : j = N := by omega
          subst e
          refine hG 90 [56] _ _ _ _ ?_
          refine And.intro (fun c1 => ?_) (fun c1 => h σ1 hL hpl hf)
          have c1 : (j : Int) < σ1.1 9 i 9 := c1
          rw [st hf 9 9 (by decide)] at c1
          omega
        | succ d ih =>
          intro j σ1 hd hj hL hpl hf
          have hjN : j < N := by omega
          have hr : sn_R ((j : Int) + 1) := ⟨by omega, by omega⟩
          have hjb : (0 : Int) ≤ (j : Int) ∧ (j : Int) < (60 : Nat) := ⟨by omega, by omega⟩
          have ek : σ1.1 10 i j = σ.1 10 i j := st hf 10 j (by decide)
          have hplen : ((cs_pl (σ.1 10 i) j).length : Int) = cn_ct (σ.1 10 i) 2 j := cs_pl_l _ _
          have hcm := cn_ct_mono (σ.1 10 i) 2 (show j + 1 ≤ N by omega)
          have hcs := cn_ct_s (σ.1 10 i) 2 j
          refine hG 90 [56] _ _ _ _ ?_
          have two : (σ.1 10 i j = 1 ∨ σ.1 10 i j = 3) → sn_ix 100 [.inl (j : Int), .inr (.inr (11, i)), .inr (.inr (15, i)), .inl (σ.1 9 i 12), .inr (.inr (19, w))] (fun x q S => (sn_ix 100 (.inl (σ1.1 q.1 q.2 x.toNat) :: S) (fun x q S => sn_iv 4 6 sp_SW_join (.inl (j : Int) :: .inl (σ1.1 q.1 q.2 x.toNat) :: S) σ1 (fun r S σ2 =>
              sn_ix 100 [.inl (j : Int), .inr (.inr (12, i)), .inr (.inr (15, i)), .inl (σ.1 9 i 12), .inr (.inr (19, w))] (fun x q S => (sn_ix 100 (.inl (σ2.1 q.1 q.2 x.toNat) :: S) (fun x q S => sn_iv 4 6 sp_SW_join (.inl (j : Int) :: .inl (σ2.1 q.1 q.2 x.toNat) :: S) σ2 (fun r S σ3 => sn_R ((j : Int) + 1) ∧ G 56 [some (.inr (.inr (19, w))), some (.inr (.inr (9, i))), some (.inl (σ.1 9 i 12)), some (.inl ((cs_pl (σ.1 10 i) j).length : Nat)), some (.inl ((j : Int) + 1))] [] σ3)))))))) := by
            intro hk
            obtain ⟨⟨l0, l1⟩, ⟨r0, r1⟩, ⟨f0, f1⟩, ⟨g0, g1⟩⟩ := hlk j (by omega) (by omega)
            have e11 : σ1.1 11 i j = σ.1 11 i j := st hf 11 j (by decide)
            have e15 : σ1.1 15 i (σ1.1 11 i j).toNat = σ.1 15 i (σ.1 11 i j).toNat := by rw [e11]; exact st hf 15 _ (by decide)
            refine And.intro hjb (And.intro ?_ (And.intro rfl (And.intro ?_ ⟨N, σ.1 9 i 11, _, by omega, ⟨hC0, hC1⟩, ?_, by omega, by rw [eP]; exact hL, fun σ2 hL2 hf2 => ?_⟩)))
            · show (0 : Int) ≤ σ1.1 11 i j ∧ σ1.1 11 i j < (100 : Nat)
              rw [e11]
              exact ⟨l0, by omega⟩
            · refine ⟨hP0, by omega, ?_, by omega⟩
              show 0 ≤ σ1.1 15 i (σ1.1 11 i j).toNat
              rw [e15]; exact f0
            · show σ1.1 15 i (σ1.1 11 i j).toNat < (N : Int)
              rw [e15]; omega
            · have hL2 : sw_L σ2 w N (σ.1 9 i 11) (σ.1 9 i 12).toNat (cs_B (σ.1 10 i) (σ.1 11 i) (σ.1 12 i) (σ.1 15 i) j ++ [((σ1.1 15 i (σ1.1 11 i j).toNat).toNat, j)]) := hL2
              have hf2 : sn_fr (sw_P w (σ.1 9 i 12).toNat) σ1 σ2 := hf2
              rw [eP] at hL2 hf2
              rw [e15] at hL2
              have hf2' : sn_fr (sw_Q w P) σ σ2 := sn_fr_t hf (sn_fr_w hf2 (fun a b c z => by rcases z with z | z | z; exact Or.inl z; exact Or.inr (Or.inl z); exact Or.inr (Or.inr (Or.inl z))))
              have e12 : σ2.1 12 i j = σ.1 12 i j := st hf2' 12 j (by decide)
              have e15' : σ2.1 15 i (σ2.1 12 i j).toNat = σ.1 15 i (σ.1 12 i j).toNat := by rw [e12]; exact st hf2' 15 _ (by decide)
              refine And.intro hjb (And.intro ?_ (And.intro rfl (And.intro ?_ ⟨N, σ.1 9 i 11, _, by omega, ⟨hC0, hC1⟩, ?_, by omega, by rw [eP]; exact hL2, fun σ3 hL3 hf3 => ?_⟩)))
              · show (0 : Int) ≤ σ2.1 12 i j ∧ σ2.1 12 i j < (100 : Nat)
                rw [e12]
                exact ⟨r0, by omega⟩
              · refine ⟨hP0, by omega, ?_, by omega⟩
                show 0 ≤ σ2.1 15 i (σ2.1 12 i j).toNat
                rw [e15']; exact g0
              · show σ2.1 15 i (σ2.1 12 i j).toNat < (N : Int)
                rw [e15']; omega
              · have hL3 : sw_L σ3 w N (σ.1 9 i 11) (σ.1 9 i 12).toNat ((cs_B (σ.1 10 i) (σ.1 11 i) (σ.1 12 i) (σ.1 15 i) j ++ [((σ.1 15 i (σ.1 11 i j).toNat).toNat, j)]) ++ [((σ2.1 15 i (σ2.1 12 i j).toNat).toNat, j)]) := hL3
                have hf3 : sn_fr (sw_P w (σ.1 9 i 12).toNat) σ2 σ3 := hf3
                rw [eP] at hL3 hf3
                rw [e15'] at hL3
                have hf3' : sn_fr (sw_Q w P) σ σ3 := sn_fr_t hf2' (sn_fr_w hf3 (fun a b c z => by rcases z with z | z | z; exact Or.inl z; exact Or.inr (Or.inl z); exact Or.inr (Or.inr (Or.inl z))))
                refine And.intro hr ?_
                have el : cs_pl (σ.1 10 i) (j + 1) = cs_pl (σ.1 10 i) j := by
                  rw [cs_pl_s, if_neg (by omega), List.append_nil]
                have g := ih (j + 1) σ3 (by omega) (by omega) (by
                    rw [cs_B_s, if_pos hk]
                    rw [List.append_assoc] at hL3
                    exact hL3) (fun k l hkl => by
                    rw [el] at hkl
                    have h24 : σ3.1 24 w k = σ1.1 24 w k := by
                      rw [hf3.2 24 w k (fun z => by rcases z with z | z | z <;> (have := z.1; omega)), hf2.2 24 w k (fun z => by rcases z with z | z | z <;> (have := z.1; omega))]
                    rw [h24]
                    exact hpl k l hkl) hf3'
                rw [el] at g
                exact g
          refine And.intro (fun c1 => And.intro hjb (And.intro (fun c2 => ?_) (fun c2 => And.intro hjb (And.intro (fun c3 => ?_) (fun c3 => And.intro hjb (And.intro (fun c4 => ?_) (fun c4 => ?_))))))) (fun c1 => ?_)
          · have c2 : σ1.1 10 i j = 1 := c2
            exact two (Or.inl (by rw [← ek]; exact c2))
          · have c3 : σ1.1 10 i j = 3 := c3
            exact two (Or.inr (by rw [← ek]; exact c3))
          · have c4 : σ1.1 10 i j = 2 := c4
            rw [ek] at c4
            rw [if_pos ⟨by omega, Or.inr c4⟩] at hcs
            have hlb : (0 : Int) ≤ (((cs_pl (σ.1 10 i) j).length : Nat) : Int) ∧ (((cs_pl (σ.1 10 i) j).length : Nat) : Int) < (8 : Nat) := ⟨by omega, by omega⟩
            refine And.intro hlb (And.intro ⟨by omega, by omega⟩ (And.intro hr ?_))
            have el : cs_pl (σ.1 10 i) (j + 1) = cs_pl (σ.1 10 i) j ++ [j] := by rw [cs_pl_s, if_pos c4]
            have eB : cs_B (σ.1 10 i) (σ.1 11 i) (σ.1 12 i) (σ.1 15 i) (j + 1) = cs_B (σ.1 10 i) (σ.1 11 i) (σ.1 12 i) (σ.1 15 i) j := by rw [cs_B_s, if_neg (by omega), List.append_nil]
            have g := ih (j + 1) (sn_u σ1.1 24 w (cs_pl (σ.1 10 i) j).length (j : Int), σ1.2) (by omega) (by omega) (by
                rw [eB]
                exact sw_L_fr hL (fun x => sn_u_k (show (21 : Nat) ≠ 24 by decide) σ1.1 w (cs_pl (σ.1 10 i) j).length (j : Int) (9 * w + P) x) (sn_u_k (show (22 : Nat) ≠ 24 by decide) σ1.1 w (cs_pl (σ.1 10 i) j).length (j : Int) w P) (sn_u_k (show (23 : Nat) ≠ 24 by decide) σ1.1 w (cs_pl (σ.1 10 i) j).length (j : Int) w P)) (fun k l hkl => by
                rw [el] at hkl
                show sn_u σ1.1 24 w (cs_pl (σ.1 10 i) j).length (j : Int) 24 w k = (l : Int)
                by_cases hk : k < (cs_pl (σ.1 10 i) j).length
                · rw [List.getElem?_append_left hk] at hkl
                  rw [sn_u_n (fun z => by have := z.2.2; omega)]
                  exact hpl k l hkl
                · rw [List.getElem?_append_right (by omega)] at hkl
                  have hk2 : k - (cs_pl (σ.1 10 i) j).length < 1 := (List.getElem?_eq_some_iff.mp hkl).1
                  have ek2 : k = (cs_pl (σ.1 10 i) j).length := by omega
                  subst ek2
                  rw [Nat.sub_self] at hkl
                  cases hkl
                  rw [sn_u_s]) (sn_fr_t hf ⟨rfl, fun a b c hn => sn_u_n (fun z => hn (Or.inr (Or.inr (Or.inr ⟨z.1, z.2.1⟩))))⟩)
            rw [el, List.length_append] at g
            exact g
          · have c2 : ¬ σ1.1 10 i j = 1 := c2
            have c3 : ¬ σ1.1 10 i j = 3 := c3
            have c4 : ¬ σ1.1 10 i j = 2 := c4
            rw [ek] at c2 c3 c4
            refine And.intro hr ?_
            have el : cs_pl (σ.1 10 i) (j + 1) = cs_pl (σ.1 10 i) j := by rw [cs_pl_s, if_neg c4, List.append_nil]
            have eB : cs_B (σ.1 10 i) (σ.1 11 i) (σ.1 12 i) (σ.1 15 i) (j + 1) = cs_B (σ.1 10 i) (σ.1 11 i) (σ.1 12 i) (σ.1 15 i) j := by rw [cs_B_s, if_neg (by omega), List.append_nil]
            have g := ih (j + 1) σ1 (by omega) (by omega) (by rw [eB]; exact hL) (by rw [el]; exact hpl) hf
            rw [el] at g
            exact g
          · have c1 : σ1.1 9 i 9 ≤ (j : Int) := c1
            rw [st hf 9 9 (by decide)] at c1
            omega
      have loop1 : ∀ (d j : Nat) (σ1 : sn_M), N - j = d → j ≤ N → (∀ x, x < j → σ1.1 21 (9 * w + P) x = (x : Int)) → σ1.1 22 w P = σ.1 9 i 11 → σ1.1 23 w P = 0 → sn_fr (sw_Q w P) σ σ1 →
          G 27 [some (.inr (.inr (19, w))), some (.inr (.inr (9, i))), some (.inl (σ.1 9 i 12)), some (.inl 0), some (.inl (j : Int))] [] σ1 := by
        intro d
        induction d with
        | zero =>
          intro j σ1 hd hj hid h22 h23 hf
          have e : j = N := by omega
          subst e
          refine hG 90 [27, 56] _ _ _ _ ?_
          refine And.intro (fun c1 => ?_) (fun c1 => ?_)
          · have c1 : (j : Int) < σ1.1 9 i 9 := c1
            rw [st hf 9 9 (by decide)] at c1
            omega
          · exact loop2 j 0 σ1 (by omega) (by omega) ⟨(fun q hq => by cases hq), uf_id hid, (by rw [h22]; exact (Int.sub_zero _).symm), (by rw [h23]; rfl)⟩ (fun k l hkl => by cases hkl) hf
        | succ d ih =>
          intro j σ1 hd hj hid h22 h23 hf
          have hr : sn_R ((j : Int) + 1) := ⟨by omega, by omega⟩
          have hjb : (0 : Int) ≤ (j : Int) ∧ (j : Int) < (60 : Nat) := ⟨by omega, by omega⟩
          refine hG 90 [27, 56] _ _ _ _ ?_
          refine And.intro (fun c1 => And.intro hP9 (And.intro hjb (And.intro hr ?_))) (fun c1 => ?_)
          · have g := ih (j + 1) (sn_u σ1.1 21 (9 * w + P) j (j : Int), σ1.2) (by omega) (by omega) (fun x hx => by
                show sn_u σ1.1 21 (9 * w + P) j (j : Int) 21 (9 * w + P) x = (x : Int)
                by_cases e : x = j
                · subst e; rw [sn_u_s]
                · rw [sn_u_n (fun z => e z.2.2)]; exact hid x (by omega)) (by
                show sn_u σ1.1 21 (9 * w + P) j (j : Int) 22 w P = _
                rw [sn_u_n (fun z => absurd z.1 (by decide))]; exact h22) (by
                show sn_u σ1.1 21 (9 * w + P) j (j : Int) 23 w P = _
                rw [sn_u_n (fun z => absurd z.1 (by decide))]; exact h23) (sn_fr_t hf ⟨rfl, fun a b c hn => sn_u_n (fun z => hn (Or.inl ⟨z.1, z.2.1⟩))⟩)
            rw [← eP] at g
            exact g
          · have c1 : σ1.1 9 i 9 ≤ (j : Int) := c1
            rw [st hf 9 9 (by decide)] at c1
            omega
      refine hG 90 [27] _ _ _ _ ?_
      refine And.intro hP9 (And.intro hP9 (And.intro (Or.inl rfl) ?_))
      have g := loop1 N 0 (sn_u (sn_u σ.1 22 w P (σ.1 9 i 11)) 23 w P 0, σ.2) (by omega) (by omega) (fun x hx => by omega) (by
          show sn_u (sn_u σ.1 22 w P (σ.1 9 i 11)) 23 w P 0 22 w P = _
          rw [sn_u_n (fun z => absurd z.1 (by decide)), sn_u_s]) (by
          show sn_u (sn_u σ.1 22 w P (σ.1 9 i 11)) 23 w P 0 23 w P = _
          rw [sn_u_s]) ⟨rfl, fun a b c hn => by
          show sn_u (sn_u σ.1 22 w P (σ.1 9 i 11)) 23 w P 0 a b c = _
          rw [sn_u_n (fun z => hn (Or.inr (Or.inr (Or.inl z)))), sn_u_n (fun z => hn (Or.inr (Or.inl z)))]⟩
      rw [← eP] at g
      exact g
    · exact h.elim
