/-! The c-th cut, in the class and in the reference; filling an array. -/
/-- x is the place of the c-th cut among the first n links, or NONE -/
def ca_is (kd : Nat → Int) (n : Nat) (c x : Int) : Prop := (∃ l : Nat, l < n ∧ x = (l : Int) ∧ kd l = 3 ∧ cn_ct kd 3 l = c) ∨ (x = -1 ∧ (c < 0 ∨ cn_ct kd 3 n ≤ c))
theorem cn_ct_3 {kd : Nat → Int} {l : Nat} (h : kd l = 3) : cn_ct kd 3 (l + 1) = cn_ct kd 3 l + 1 := by rw [cn_ct_s, if_pos ⟨by omega, Or.inr h⟩]
theorem cn_ct_n3 {kd : Nat → Int} {l : Nat} (h : ¬ kd l = 3) : cn_ct kd 3 (l + 1) = cn_ct kd 3 l := by rw [cn_ct_s, if_neg (by omega)]; omega
theorem ca_uniq {kd : Nat → Int} {n : Nat} {c x y : Int} (hx : ca_is kd n c x) (hy : ca_is kd n c y) : x = y := by
  have mono : ∀ {a b : Nat}, a < b → kd a = 3 → cn_ct kd 3 a < cn_ct kd 3 b := by
    intro a b hab ha
    have h1 := cn_ct_3 ha
    have h2 := cn_ct_mono kd 3 (show a + 1 ≤ b by omega)
    omega
  rcases hx with ⟨l, hl, rfl, hk, hc⟩ | ⟨rfl, hc⟩
  · rcases hy with ⟨m, hm, rfl, hk2, hc2⟩ | ⟨rfl, hc2⟩
    · rcases Nat.lt_trichotomy l m with h | h | h
      · have := mono h hk; omega
      · rw [h]
      · have := mono h hk2; omega
    · have h1 := (cn_ct_b kd 3 l).1
      have h2 := mono hl hk
      omega
  · rcases hy with ⟨m, hm, rfl, hk2, hc2⟩ | ⟨rfl, hc2⟩
    · have h1 := (cn_ct_b kd 3 m).1
      have h2 := mono hm hk2
      omega
    · rfl
def sp_ST_cutAt : sn_P := fun vs σ po => match vs with
  | [.inr (.inr q), .inl c] => q.1 = 9 ∧ (0 ≤ σ.1 9 q.2 9 ∧ σ.1 9 q.2 9 ≤ 60) ∧ ∀ x, ca_is (σ.1 10 q.2) (σ.1 9 q.2 9).toNat c x → po (some (.inl x)) σ
  | _ => False
def ca_ST_cutAt : List (Nat × Nat × Nat × sn_P) := []
theorem co_ST_cutAt : ∀ x n ci s', sn_lk ca_ST_cutAt x = some (n, ci, s') → sn_CO "SwitchedNets$Structure" sn_ws 0 x n ci s' := fun _ _ _ _ h => by cases h
theorem ct_ST_cutAt : sn_CT y_ST_cutAt ws_ST_cutAt 0 sp_ST_cutAt := by
  refine sn_CT_of (pr := pr_ST_cutAt) (fi := (sn_lk ft_ST)) (lc := sn_no) (ca := sn_lk ca_ST_cutAt) pl_ST ?_ pk_ST_cutAt FI_ST (sn_no_ok _) co_ST_cutAt ?_
  · intro vs σ post h
    unfold sp_ST_cutAt at h
    split at h
    · exact Nat.le_of_ble_eq_true rfl
    · exact h.elim
  · intro vs σ post h hvs hR
    unfold sp_ST_cutAt at h
    split at h
    · next q c =>
      obtain ⟨a, i⟩ := q
      obtain ⟨ha, ⟨hn0, hn1⟩, h⟩ := h
      have ha : a = 9 := ha
      subst ha
      intro G hG
      have hn0 : 0 ≤ σ.1 9 i 9 := hn0
      have hn1 : σ.1 9 i 9 ≤ 60 := hn1
      obtain ⟨n, hn⟩ := Int.eq_ofNat_of_zero_le hn0
      have h : ∀ x, ca_is (σ.1 10 i) (σ.1 9 i 9).toNat c x → post (some (.inl x)) σ := h
      rw [hn] at h
      have h : ∀ x, ca_is (σ.1 10 i) n c x → post (some (.inl x)) σ := h
      have loop : ∀ (d l : Nat), n - l = d → l ≤ n → (c < 0 ∨ cn_ct (σ.1 10 i) 3 l ≤ c) → G 4 [some (.inr (.inr (9, i))), some (.inl c), some (.inl (cn_ct (σ.1 10 i) 3 l)), some (.inl (l : Int))] [] σ := by
        intro d
        induction d with
        | zero =>
          intro l hd hl hc
          have e : l = n := by omega
          subst e
          refine hG 60 [4] _ _ _ _ ?_
          refine And.intro (fun c1 => ?_) (fun _ => h _ (Or.inr ⟨rfl, hc⟩))
          have c1 : (l : Int) < σ.1 9 i 9 := c1
          omega
        | succ d ih =>
          intro l hd hl hc
          have hr : sn_R ((l : Int) + 1) := ⟨by omega, by omega⟩
          have hb : (0 : Int) ≤ (l : Int) ∧ (l : Int) < (60 : Nat) := ⟨by omega, by omega⟩
          have hcb := cn_ct_b (σ.1 10 i) 3 l
          refine hG 60 [4] _ _ _ _ ?_
          refine And.intro (fun c1 => And.intro hb (And.intro (fun c2 => And.intro (fun c3 => ?_) (fun c3 => And.intro ⟨by omega, by omega⟩ (And.intro hr ?_))) (fun c2 => And.intro hr ?_))) (fun c1 => ?_)
          · exact h _ (Or.inl ⟨l, by omega, rfl, c2, c3⟩)
          · have c2 : σ.1 10 i l = 3 := c2
            have c3 : ¬ cn_ct (σ.1 10 i) 3 l = c := c3
            have g := ih (l + 1) (by omega) (by omega) (by rw [cn_ct_3 c2]; omega)
            rw [cn_ct_3 c2] at g
            exact g
          · have c2 : ¬ σ.1 10 i l = 3 := c2
            have g := ih (l + 1) (by omega) (by omega) (by rw [cn_ct_n3 c2]; exact hc)
            rw [cn_ct_n3 c2] at g
            exact g
          · have c1 : σ.1 9 i 9 ≤ (l : Int) := c1
            omega
      refine hG 60 [4] _ _ _ _ ?_
      refine loop n 0 (by omega) (by omega) ?_
      show c < 0 ∨ (0 : Int) ≤ c
      omega
    · exact h.elim
def sp_MD_cutAt : sn_P := fun vs σ po => match vs with
  | [.inr (.inr q), .inl c] => q = (40, 0) ∧ (0 ≤ σ.1 46 0 0 ∧ σ.1 46 0 0 ≤ 60) ∧ ∀ x, ca_is (σ.1 49 0) (σ.1 46 0 0).toNat c x → po (some (.inl x)) σ
  | _ => False
def ca_MD_cutAt : List (Nat × Nat × Nat × sn_P) := []
theorem co_MD_cutAt : ∀ x n ci s', sn_lk ca_MD_cutAt x = some (n, ci, s') → sn_CO "SwitchedNetsModel" sn_ws 0 x n ci s' := fun _ _ _ _ h => by cases h
theorem ct_MD_cutAt : sn_CT y_MD_cutAt ws_MD_cutAt 0 sp_MD_cutAt := by
  refine sn_CT_of (pr := pr_MD_cutAt) (fi := (sn_lk ft_MD)) (lc := (sn_lk lc_MD)) (ca := sn_lk ca_MD_cutAt) pl_MD ?_ pk_MD_cutAt FI_MD LC_MD co_MD_cutAt ?_
  · intro vs σ post h
    unfold sp_MD_cutAt at h
    split at h
    · exact Nat.le_of_ble_eq_true rfl
    · exact h.elim
  · intro vs σ post h hvs hR
    unfold sp_MD_cutAt at h
    split at h
    · next q c =>
      obtain ⟨rfl, ⟨hn0, hn1⟩, h⟩ := h
      intro G hG
      have hcR : sn_R c := hvs (.inl c) (by simp)
      obtain ⟨n, hn⟩ := Int.eq_ofNat_of_zero_le hn0
      rw [hn] at h
      have h : ∀ x, ca_is (σ.1 49 0) n c x → post (some (.inl x)) σ := h
      have hb0 : (0 : Int) ≤ 0 ∧ (0 : Int) < (4 : Nat) := ⟨by decide, by decide⟩
      -- at every cut the number goes down by one; it may run over where c is very small, and then it doesn't matter
      have loop : ∀ (d l : Nat) (f y : Int), n - l = d → l ≤ n → (0 ≤ c → y = c - cn_ct (σ.1 49 0) 3 l ∧ ca_is (σ.1 49 0) l c f) → G 7 [some (.inr (.inr (40, 0))), some (.inl c), some (.inl y), some (.inl f), some (.inl (l : Int))] [] σ := by
        intro d
        induction d with
        | zero =>
          intro l f y hd hl hf
          have e : l = n := by omega
          subst e
          refine hG 60 [7] _ _ _ _ ?_
          refine And.intro hb0 (And.intro (fun c1 => ?_) (fun _ => And.intro (fun c2 => ?_) (fun c2 => ?_)))
          · have c1 : (l : Int) < σ.1 46 0 0 := c1
            omega
          · exact h _ (Or.inr ⟨rfl, Or.inl c2⟩)
          · exact h _ (hf c2).2
        | succ d ih =>
          intro l f y hd hl hf
          have hr : sn_R ((l : Int) + 1) := ⟨by omega, by omega⟩
          have hb : (0 : Int) ≤ (l : Int) ∧ (l : Int) < (240 : Nat) := ⟨by omega, by omega⟩
          have hcb := cn_ct_b (σ.1 49 0) 3 l
          have hwr : 0 ≤ c → sn_wr (y - 1) = y - 1 := fun hc => by
            have := (hf hc).1
            exact sn_toInt ⟨by omega, by have := hcR.2; omega⟩
          refine hG 60 [7] _ _ _ _ ?_
          refine And.intro hb0 (And.intro (fun c1 => And.intro hb (And.intro (fun c2 => And.intro (fun c3 => And.intro hb (And.intro (fun c4 => And.intro hr ?_) (fun c4 => absurd c2 c4))) (fun c3 => And.intro hb (And.intro (fun c4 => And.intro hr ?_) (fun c4 => absurd c2 c4)))) (fun c2 => And.intro hb (And.intro (fun c4 => absurd c4 c2) (fun c4 => And.intro hr ?_))))) (fun c1 => ?_))
          · have c2 : σ.1 49 0 l = 3 := c2
            have c3 : y = 0 := c3
            refine ih (l + 1) _ _ (by omega) (by omega) (fun hc => ⟨?_, Or.inl ⟨l, by omega, rfl, c2, ?_⟩⟩)
            · rw [cn_ct_3 c2]
              have := (hf hc).1
              have h2 := hwr hc
              show sn_wr (y - 1) = _
              omega
            · have := (hf hc).1
              omega
          · have c2 : σ.1 49 0 l = 3 := c2
            have c3 : ¬ y = 0 := c3
            refine ih (l + 1) _ _ (by omega) (by omega) (fun hc => ⟨?_, ?_⟩)
            · rw [cn_ct_3 c2]
              have := (hf hc).1
              have h2 := hwr hc
              show sn_wr (y - 1) = _
              omega
            · obtain ⟨hy, hf2⟩ := hf hc
              rcases hf2 with ⟨m, hm, hx, hk, hcm⟩ | ⟨hx, hcm⟩
              · exact Or.inl ⟨m, by omega, hx, hk, hcm⟩
              · exact Or.inr ⟨hx, Or.inr (by rw [cn_ct_3 c2]; omega)⟩
          · have c2 : ¬ σ.1 49 0 l = 3 := c2
            refine ih (l + 1) _ _ (by omega) (by omega) (fun hc => ⟨?_, ?_⟩)
            · rw [cn_ct_n3 c2]
              exact (hf hc).1
            · rcases (hf hc).2 with ⟨m, hm, hx, hk, hcm⟩ | ⟨hx, hcm⟩
              · exact Or.inl ⟨m, by omega, hx, hk, hcm⟩
              · exact Or.inr ⟨hx, by rw [cn_ct_n3 c2]; exact hcm⟩
          · have c1 : σ.1 46 0 0 ≤ (l : Int) := c1
            omega
      refine hG 60 [7] _ _ _ _ ?_
      refine loop n 0 (-1) c (by omega) (by omega) (fun hc => ⟨?_, Or.inr ⟨rfl, Or.inr ?_⟩⟩)
      · show c = c - 0
        omega
      · exact hc
    · exact h.elim
def sp_AR_fill : sn_P := fun vs σ po => match vs with
  | [.inr (.inr q), .inl x] => (q = (30, 0) ∨ q = (31, 0) ∨ q = (36, 0)) ∧ ∀ p : Nat → Int, (∀ j, j < sn_kl q.1 → p j = x) → (∀ j, sn_kl q.1 ≤ j → p j = σ.1 q.1 q.2 j) → po none (sn_ov σ q.1 q.2 p)
  | _ => False
theorem ar_fill_30 {post : Option sn_V → sn_M → Prop} {σ : sn_M} {x : Int} (h : ∀ p : Nat → Int, (∀ j, j < 100 → p j = x) → (∀ j, 100 ≤ j → p j = σ.1 30 0 j) → post none (sn_ov σ 30 0 p)) : sn_Bd pr_AR_fill (sn_lk []) sn_no (sn_lk []) 4 [.inr (.inr (30, 0)), .inl x] σ post := by
  intro G hG
  have loop : ∀ (d j : Nat) (p : Nat → Int), 100 - j = d → j ≤ 100 → (∀ t, t < j → p t = x) → (∀ t, 100 ≤ t → p t = σ.1 30 0 t) → G 5 [some (.inr (.inr (30, 0))), some (.inl x), some (.inl (j : Int)), some (.inl (100 : Int))] [] (sn_ov σ 30 0 p) := by
    intro d
    induction d with
    | zero =>
      intro j p hd hj hp hq
      have e : j = 100 := by omega
      subst e
      refine hG 60 [5] _ _ _ _ ?_
      exact And.intro (fun c1 => absurd c1 (by decide)) (fun _ => h p hp hq)
    | succ d ih =>
      intro j p hd hj hp hq
      have hr : sn_R ((j : Int) + 1) := ⟨by omega, by omega⟩
      have hb : (0 : Int) ≤ (j : Int) ∧ (j : Int) < (100 : Nat) := ⟨by omega, by omega⟩
      refine hG 60 [5] _ _ _ _ ?_
      refine And.intro (fun c1 => And.intro hb (And.intro hr ?_)) (fun c1 => ?_)
      · have g := ih (j + 1) (sn_up p j x) (by omega) (by omega) (fun t ht => by
          unfold sn_up
          split
          · rfl
          · exact hp t (by omega)) (fun t ht => by
          unfold sn_up
          rw [if_neg (by omega)]
          exact hq t ht)
        rw [← sn_ov_u] at g
        exact g
      · have c1 : (100 : Int) ≤ (j : Int) := c1
        omega
  refine hG 60 [5] _ _ _ _ ?_
  have g := loop 100 0 (σ.1 30 0) (by omega) (by omega) (fun t ht => by omega) (fun t _ => rfl)
  rw [sn_ov_rf] at g
  exact g
theorem ar_fill_31 {post : Option sn_V → sn_M → Prop} {σ : sn_M} {x : Int} (h : ∀ p : Nat → Int, (∀ j, j < 60 → p j = x) → (∀ j, 60 ≤ j → p j = σ.1 31 0 j) → post none (sn_ov σ 31 0 p)) : sn_Bd pr_AR_fill (sn_lk []) sn_no (sn_lk []) 4 [.inr (.inr (31, 0)), .inl x] σ post := by
  intro G hG
  have loop : ∀ (d j : Nat) (p : Nat → Int), 60 - j = d → j ≤ 60 → (∀ t, t < j → p t = x) → (∀ t, 60 ≤ t → p t = σ.1 31 0 t) → G 5 [some (.inr (.inr (31, 0))), some (.inl x), some (.inl (j : Int)), some (.inl (60 : Int))] [] (sn_ov σ 31 0 p) := by
    intro d
    induction d with
    | zero =>
      intro j p hd hj hp hq
      have e : j = 60 := by omega
      subst e
      refine hG 60 [5] _ _ _ _ ?_
      exact And.intro (fun c1 => absurd c1 (by decide)) (fun _ => h p hp hq)
    | succ d ih =>
      intro j p hd hj hp hq
      have hr : sn_R ((j : Int) + 1) := ⟨by omega, by omega⟩
      have hb : (0 : Int) ≤ (j : Int) ∧ (j : Int) < (60 : Nat) := ⟨by omega, by omega⟩
      refine hG 60 [5] _ _ _ _ ?_
      refine And.intro (fun c1 => And.intro hb (And.intro hr ?_)) (fun c1 => ?_)
      · have g := ih (j + 1) (sn_up p j x) (by omega) (by omega) (fun t ht => by
          unfold sn_up
          split
          · rfl
          · exact hp t (by omega)) (fun t ht => by
          unfold sn_up
          rw [if_neg (by omega)]
          exact hq t ht)
        rw [← sn_ov_u] at g
        exact g
      · have c1 : (60 : Int) ≤ (j : Int) := c1
        omega
  refine hG 60 [5] _ _ _ _ ?_
  have g := loop 60 0 (σ.1 31 0) (by omega) (by omega) (fun t ht => by omega) (fun t _ => rfl)
  rw [sn_ov_rf] at g
  exact g
theorem ar_fill_36 {post : Option sn_V → sn_M → Prop} {σ : sn_M} {x : Int} (h : ∀ p : Nat → Int, (∀ j, j < 8 → p j = x) → (∀ j, 8 ≤ j → p j = σ.1 36 0 j) → post none (sn_ov σ 36 0 p)) : sn_Bd pr_AR_fill (sn_lk []) sn_no (sn_lk []) 4 [.inr (.inr (36, 0)), .inl x] σ post := by
  intro G hG
  have loop : ∀ (d j : Nat) (p : Nat → Int), 8 - j = d → j ≤ 8 → (∀ t, t < j → p t = x) → (∀ t, 8 ≤ t → p t = σ.1 36 0 t) → G 5 [some (.inr (.inr (36, 0))), some (.inl x), some (.inl (j : Int)), some (.inl (8 : Int))] [] (sn_ov σ 36 0 p) := by
    intro d
    induction d with
    | zero =>
      intro j p hd hj hp hq
      have e : j = 8 := by omega
      subst e
      refine hG 60 [5] _ _ _ _ ?_
      exact And.intro (fun c1 => absurd c1 (by decide)) (fun _ => h p hp hq)
    | succ d ih =>
      intro j p hd hj hp hq
      have hr : sn_R ((j : Int) + 1) := ⟨by omega, by omega⟩
      have hb : (0 : Int) ≤ (j : Int) ∧ (j : Int) < (8 : Nat) := ⟨by omega, by omega⟩
      refine hG 60 [5] _ _ _ _ ?_
      refine And.intro (fun c1 => And.intro hb (And.intro hr ?_)) (fun c1 => ?_)
      · have g := ih (j + 1) (sn_up p j x) (by omega) (by omega) (fun t ht => by
          unfold sn_up
          split
          · rfl
          · exact hp t (by omega)) (fun t ht => by
          unfold sn_up
          rw [if_neg (by omega)]
          exact hq t ht)
        rw [← sn_ov_u] at g
        exact g
      · have c1 : (8 : Int) ≤ (j : Int) := c1
        omega
  refine hG 60 [5] _ _ _ _ ?_
  have g := loop 8 0 (σ.1 36 0) (by omega) (by omega) (fun t ht => by omega) (fun t _ => rfl)
  rw [sn_ov_rf] at g
  exact g
def ca_AR_fill : List (Nat × Nat × Nat × sn_P) := []
theorem co_AR_fill : ∀ x n ci s', sn_lk ca_AR_fill x = some (n, ci, s') → sn_CO "java/util/Arrays" sn_ws 0 x n ci s' := fun _ _ _ _ h => by cases h
theorem ct_AR_fill : sn_CT y_AR_fill ws_AR_fill 0 sp_AR_fill := by
  refine sn_CT_of (pr := pr_AR_fill) (fi := (sn_lk [])) (lc := sn_no) (ca := sn_lk ca_AR_fill) pl_AR ?_ pk_AR_fill (sn_FI_no _) (sn_no_ok _) co_AR_fill ?_
  · intro vs σ post h
    unfold sp_AR_fill at h
    split at h
    · exact Nat.le_of_ble_eq_true rfl
    · exact h.elim
  · intro vs σ post h hvs hR
    unfold sp_AR_fill at h
    split at h
    · next q x =>
      obtain ⟨hq, h⟩ := h
      rcases hq with rfl | rfl | rfl
      · exact ar_fill_30 h
      · exact ar_fill_31 h
      · exact ar_fill_36 h
    · exact h.elim
