/-! The class's copyFrom; structures that are the same as far as they reach. -/
def s_eq (S S' : sT) : Prop := S'.2 = S.2 ∧ (∀ a l, a < 4 → l < S.2.1 → S'.1 a l = S.1 a l) ∧ (∀ a e, 4 ≤ a → a < 8 → e < S.2.2.1 → S'.1 a e = S.1 a e) ∧ ∀ c, c < S.2.2.2 → S'.1 8 c = S.1 8 c
theorem s_eq_rf (S : sT) : s_eq S S := ⟨rfl, fun _ _ _ _ => rfl, fun _ _ _ _ _ => rfl, fun _ _ => rfl⟩
theorem s_eq_sy {S S' : sT} (h : s_eq S S') : s_eq S' S := by
  obtain ⟨h1, h2, h3, h4⟩ := h
  unfold s_eq
  rw [h1]
  exact ⟨rfl, fun a l p q => (h2 a l p q).symm, fun a l p q r => (h3 a l p q r).symm, fun c p => (h4 c p).symm⟩
theorem s_eq_t {S S' S'' : sT} (h : s_eq S S') (g : s_eq S' S'') : s_eq S S'' := by
  obtain ⟨h1, h2, h3, h4⟩ := h
  obtain ⟨g1, g2, g3, g4⟩ := g
  rw [h1] at g1 g2 g3 g4
  exact ⟨g1, fun a l p q => (g2 a l p q).trans (h2 a l p q), fun a l p q r => (g3 a l p q r).trans (h3 a l p q r), fun c p => (g4 c p).trans (h4 c p)⟩
theorem s_eq_ok {T : fT} {S S' : sT} (h : s_ok T S) (e : s_eq S S') : s_ok T S' := by
  obtain ⟨e1, e2, e3, e4⟩ := e
  obtain ⟨hb, hl, he, hc, c1, c2⟩ := h
  have e0 : ∀ l, l < S.2.1 → S'.1 0 l = S.1 0 l ∧ S'.1 1 l = S.1 1 l ∧ S'.1 2 l = S.1 2 l ∧ S'.1 3 l = S.1 3 l := fun l hl => ⟨e2 0 l (by omega) hl, e2 1 l (by omega) hl, e2 2 l (by omega) hl, e2 3 l (by omega) hl⟩
  have e5 : ∀ l, l < S.2.2.1 → S'.1 4 l = S.1 4 l ∧ S'.1 5 l = S.1 5 l ∧ S'.1 6 l = S.1 6 l ∧ S'.1 7 l = S.1 7 l := fun l hl => ⟨e3 4 l (by omega) (by omega) hl, e3 5 l (by omega) (by omega) hl, e3 6 l (by omega) (by omega) hl, e3 7 l (by omega) (by omega) hl⟩
  refine ⟨by rw [e1]; exact hb, fun l hll => ?_, fun e hee => ?_, fun c hcc => ?_, ?_, ?_⟩
  · rw [e1] at hll
    exact s_wl_c (hl l hll) (e0 l hll) (by rw [e1]; exact Nat.le_refl _) (fun _ e h1 _ _ => ⟨(e5 e h1).1, (e5 e h1).2.1, fun z => by rw [(e5 e h1).2.2.1]; exact z⟩)
  · rw [e1] at hee
    have w := he e hee
    have w6 := w.2.1
    have w7 := w.2.2.1
    have w5 := w.2.2.2.1
    refine s_we_c w (e5 e hee) (by rw [e1]; exact Nat.le_refl _) (by rw [e1]; exact Nat.le_refl _) (fun _ => ?_) (fun _ z => ?_) (fun _ z => e4 _ (by omega))
    · have q := e0 (S.1 5 e).toNat (by omega)
      exact ⟨q.1, fun _ => ⟨q.2.1, q.2.2.1⟩, q.2.2.2⟩
    · have q := e0 (S.1 6 e).toNat (by omega)
      rw [q.1, q.2.1, q.2.2.1]
      exact ⟨rfl, id, id⟩
  · rw [e1] at hcc
    have q := hc c hcc
    unfold s_wc at q ⊢
    have hx : (S.1 8 c).toNat < S.2.2.1 := by have := q.1.1; have := q.1.2.1; omega
    rw [e4 c hcc]
    exact ⟨s_al_c q.1 (by rw [e1]; exact Nat.le_refl _) (e5 _ hx).1, by rw [(e5 _ hx).2.2.2]; exact q.2⟩
  · rw [e1, cn_ct_ext (f := S'.1 0) (g := S.1 0) _ _ (fun l hl => (e0 l hl).1)]
    exact c1
  · rw [e1, cn_ct_ext (f := S'.1 0) (g := S.1 0) _ _ (fun l hl => (e0 l hl).1)]
    exact c2
def s_mx (p q : Nat → Int) (n : Nat) : Nat → Int := fun l => if l < n then p l else q l
/-- what a copy leaves: the first as far as it reaches, the second behind -/
def s_cp (S : sT) (B : Nat → Nat → Int) : sT := (fun a => match a with
  | 0 => s_mx (S.1 0) (B 0) S.2.1
  | 1 => s_mx (S.1 1) (B 1) S.2.1
  | 2 => s_mx (S.1 2) (B 2) S.2.1
  | 3 => s_mx (S.1 3) (B 3) S.2.1
  | 4 => s_mx (S.1 4) (B 4) S.2.2.1
  | 5 => s_mx (S.1 5) (B 5) S.2.2.1
  | 6 => s_mx (S.1 6) (B 6) S.2.2.1
  | 7 => s_mx (S.1 7) (B 7) S.2.2.1
  | 8 => s_mx (S.1 8) (B 8) S.2.2.2
  | a + 9 => S.1 (a + 9), S.2)
theorem s_mx_l {p q : Nat → Int} {n l : Nat} (h : l < n) : s_mx p q n l = p l := if_pos h
theorem s_cp_eq (S : sT) (B : Nat → Nat → Int) : s_eq S (s_cp S B) := by
  refine ⟨rfl, fun a l ha hl => ?_, fun a e h1 h2 he => ?_, fun c hc => s_mx_l hc⟩
  · match a, ha with
    | 0, _ => exact s_mx_l hl
    | 1, _ => exact s_mx_l hl
    | 2, _ => exact s_mx_l hl
    | 3, _ => exact s_mx_l hl
    | a + 4, h => omega
  · match a, h1, h2 with
    | 4, _, _ => exact s_mx_l he
    | 5, _, _ => exact s_mx_l he
    | 6, _, _ => exact s_mx_l he
    | 7, _, _ => exact s_mx_l he
    | a + 8, _, h => omega
def x_c (X : sX) (a : Nat) (p : Nat → Int) : sX := (fun a' => if a' = a then p else X.1 a', X.2)
theorem sx_c {X Y : sX} {i j : Nat} {σ : sn_M} (h : sx_v X i σ) (g : sx_v Y j σ) (hij : i ≠ j) (a n : Nat) {k : Nat} (hk : k = 10 + a) (ha : a < 9) : sx_v (x_c X a (s_mx (Y.1 a) (X.1 a) n)) i (sn_cp σ.1 k j k i 0 0 n, σ.2) ∧ sx_v Y j (sn_cp σ.1 k j k i 0 0 n, σ.2) ∧ sx_f i σ (sn_cp σ.1 k j k i 0 0 n, σ.2) := by
  subst hk
  refine ⟨⟨fun a' ha' => ?_, fun s h1 h2 => ?_⟩, ⟨fun a' ha' => ?_, fun s h1 h2 => ?_⟩, ⟨rfl, fun k' i' j' hn => ?_⟩⟩
  · funext l
    show sn_cp σ.1 (10 + a) j (10 + a) i 0 0 n (10 + a') i l = (if a' = a then s_mx (Y.1 a) (X.1 a) n else X.1 a') l
    unfold sn_cp
    by_cases e : a' = a
    · subst e
      rw [if_pos rfl]
      unfold s_mx
      by_cases hl : l < n
      · rw [if_pos ⟨rfl, rfl, by omega, by omega⟩, if_pos hl, g.1 a' ha']
        rw [Nat.sub_zero, Nat.zero_add]
      · rw [if_neg (fun z => hl (by have := z.2.2.2; omega)), if_neg hl, h.1 a' ha']
    · rw [if_neg e, if_neg (fun z => e (by have := z.1; omega)), h.1 a' ha']
  · show sn_cp σ.1 (10 + a) j (10 + a) i 0 0 n 9 i s = X.2 s
    unfold sn_cp
    rw [if_neg (fun z => by have := z.1; omega)]
    exact h.2 s h1 h2
  · funext l
    show sn_cp σ.1 (10 + a) j (10 + a) i 0 0 n (10 + a') j l = Y.1 a' l
    unfold sn_cp
    rw [if_neg (fun z => hij z.2.1.symm), g.1 a' ha']
  · show sn_cp σ.1 (10 + a) j (10 + a) i 0 0 n 9 j s = Y.2 s
    unfold sn_cp
    rw [if_neg (fun z => by have := z.1; omega)]
    exact g.2 s h1 h2
  · show sn_cp σ.1 (10 + a) j (10 + a) i 0 0 n k' i' j' = _
    unfold sn_cp
    rw [if_neg (fun z => hn ⟨by have := z.1; omega, z.2.1⟩)]
theorem sx_s_o {Y : sX} {i j : Nat} {σ : sn_M} (h : sx_v Y j σ) (hij : i ≠ j) (s : Nat) (v : Int) : sx_v Y j (sn_u σ.1 9 i s v, σ.2) := by
  refine ⟨fun a ha => ?_, fun t h1 h2 => ?_⟩
  · show sn_u σ.1 9 i s v (10 + a) j = _
    rw [sn_u_rk (by omega)]
    exact h.1 a ha
  · show sn_u σ.1 9 i s v 9 j t = _
    unfold sn_u
    rw [if_neg (fun z => hij z.2.1.symm)]
    exact h.2 t h1 h2
def sp_ST_copyFrom : sn_P := fun vs σ po => match vs with
  | [.inr (.inr q), .inr (.inr t)] => q.1 = 9 ∧ t.1 = 9 ∧ q.2 ≠ t.2 ∧ ∃ S : sT, sx_v (s_X S) t.2 σ ∧ (S.2.1 ≤ 60 ∧ S.2.2.1 ≤ 100 ∧ S.2.2.2 ≤ 100) ∧ ∀ S' σ', s_eq S S' → sx_v (s_X S') q.2 σ' → sx_f q.2 σ σ' → po none σ'
  | _ => False
def ca_ST_copyFrom : List (Nat × Nat × Nat × sn_P) := [(58, 5, 0, sp_copy)]
theorem co_ST_copyFrom : ∀ x n ci s', sn_lk ca_ST_copyFrom x = some (n, ci, s') → sn_CO "SwitchedNets$Structure" sn_ws 1 x n ci s' := sn_co_of (List.forall_mem_cons.mpr ⟨sn_CO_copy (by decide) ml_ST_58 mn_copy mt_copy mz_copy, fun _ h => absurd h List.not_mem_nil⟩)
set_option maxHeartbeats 1000000 in
theorem ct_ST_copyFrom : sn_CT y_ST_copyFrom ws_ST_copyFrom 1 sp_ST_copyFrom := by
  refine sn_CT_of (pr := pr_ST_copyFrom) (fi := (sn_lk ft_ST)) (lc := sn_no) (ca := sn_lk ca_ST_copyFrom) pl_ST ?_ pk_ST_copyFrom FI_ST (sn_no_ok _) co_ST_copyFrom ?_
  · intro vs σ post h
    unfold sp_ST_copyFrom at h
    split at h
    · exact Nat.le_of_ble_eq_true rfl
    · exact h.elim
  · intro vs σ post h hvs hR
    unfold sp_ST_copyFrom at h
    split at h
    · next q t =>
      obtain ⟨a, i⟩ := q
      obtain ⟨b, j⟩ := t
      obtain ⟨ha, hb, hij, S, hv, ⟨b1, b2, b3⟩, h⟩ := h
      have ha : a = 9 := ha
      have hb : b = 9 := hb
      have hij : i ≠ j := hij
      have hv : sx_v (s_X S) j σ := hv
      subst ha
      subst hb
      intro G hG
      have d0 : sx_v ((fun a => σ.1 (10 + a) i, fun s => σ.1 9 i s) : sX) i σ := ⟨fun _ _ => rfl, fun _ _ _ => rfl⟩
      have s9 : σ.1 9 j 9 = (S.2.1 : Int) := sx_9 hv (by omega)
      have s10 : σ.1 9 j 10 = (S.2.2.1 : Int) := sx_9 hv (by omega)
      have s14 : σ.1 9 j 14 = (S.2.2.2 : Int) := sx_9 hv (by omega)
      have n1 : (0 : Int) ≤ 0 ∧ (0 : Int) ≤ 0 ∧ 0 ≤ σ.1 9 j 9 ∧ 0 + σ.1 9 j 9 ≤ (60 : Nat) ∧ 0 + σ.1 9 j 9 ≤ (60 : Nat) := by rw [s9]; omega
      have n2 : (0 : Int) ≤ 0 ∧ (0 : Int) ≤ 0 ∧ 0 ≤ σ.1 9 j 10 ∧ 0 + σ.1 9 j 10 ≤ (100 : Nat) ∧ 0 + σ.1 9 j 10 ≤ (100 : Nat) := by rw [s10]; omega
      have n3 : (0 : Int) ≤ 0 ∧ (0 : Int) ≤ 0 ∧ 0 ≤ σ.1 9 j 14 ∧ 0 + σ.1 9 j 14 ≤ (100 : Nat) ∧ 0 + σ.1 9 j 14 ≤ (100 : Nat) := by rw [s14]; omega
      obtain ⟨d1, e1, f1⟩ := sx_c d0 hv hij 0 (σ.1 9 j 9).toNat (k := 10) rfl (by omega)
      obtain ⟨d2, e2, f2⟩ := sx_c d1 e1 hij 1 (σ.1 9 j 9).toNat (k := 11) rfl (by omega)
      obtain ⟨d3, e3, f3⟩ := sx_c d2 e2 hij 2 (σ.1 9 j 9).toNat (k := 12) rfl (by omega)
      obtain ⟨d4, e4, f4⟩ := sx_c d3 e3 hij 3 (σ.1 9 j 9).toNat (k := 13) rfl (by omega)
      obtain ⟨d5, e5, f5⟩ := sx_c d4 e4 hij 4 (σ.1 9 j 10).toNat (k := 14) rfl (by omega)
      obtain ⟨d6, e6, f6⟩ := sx_c d5 e5 hij 5 (σ.1 9 j 10).toNat (k := 15) rfl (by omega)
      obtain ⟨d7, e7, f7⟩ := sx_c d6 e6 hij 6 (σ.1 9 j 10).toNat (k := 16) rfl (by omega)
      obtain ⟨d8, e8, f8⟩ := sx_c d7 e7 hij 7 (σ.1 9 j 10).toNat (k := 17) rfl (by omega)
      obtain ⟨d9, e9, f9⟩ := sx_c d8 e8 hij 8 (σ.1 9 j 14).toNat (k := 18) rfl (by omega)
      have ff := sx_f_t f1 (sx_f_t f2 (sx_f_t f3 (sx_f_t f4 (sx_f_t f5 (sx_f_t f6 (sx_f_t f7 (sx_f_t f8 f9)))))))
      have t9 : (σ.1 9 j 9).toNat = S.2.1 := by rw [s9]; rfl
      have t10 : (σ.1 9 j 10).toNat = S.2.2.1 := by rw [s10]; rfl
      have t14 : (σ.1 9 j 14).toNat = S.2.2.2 := by rw [s14]; rfl
      refine hG 120 [] _ _ _ _ ?_
      refine And.intro n1 (And.intro n1 (And.intro n1 (And.intro n1 (And.intro n2 (And.intro n2 (And.intro n2 (And.intro n2 (And.intro n3 ?_))))))))
      have w1 := sx_9 e9 (j := 9) (by omega)
      have D1 := sx_s d9 9 (((sn_cp (sn_cp (sn_cp (sn_cp (sn_cp (sn_cp (sn_cp (sn_cp (sn_cp σ.1 10 j 10 i 0 0 (σ.1 9 j 9).toNat) 11 j 11 i 0 0 (σ.1 9 j 9).toNat) 12 j 12 i 0 0 (σ.1 9 j 9).toNat) 13 j 13 i 0 0 (σ.1 9 j 9).toNat) 14 j 14 i 0 0 (σ.1 9 j 10).toNat) 15 j 15 i 0 0 (σ.1 9 j 10).toNat) 16 j 16 i 0 0 (σ.1 9 j 10).toNat) 17 j 17 i 0 0 (σ.1 9 j 10).toNat) 18 j 18 i 0 0 (σ.1 9 j 14).toNat)) 9 j 9)
      have E1 := sx_s_o e9 hij 9 (((sn_cp (sn_cp (sn_cp (sn_cp (sn_cp (sn_cp (sn_cp (sn_cp (sn_cp σ.1 10 j 10 i 0 0 (σ.1 9 j 9).toNat) 11 j 11 i 0 0 (σ.1 9 j 9).toNat) 12 j 12 i 0 0 (σ.1 9 j 9).toNat) 13 j 13 i 0 0 (σ.1 9 j 9).toNat) 14 j 14 i 0 0 (σ.1 9 j 10).toNat) 15 j 15 i 0 0 (σ.1 9 j 10).toNat) 16 j 16 i 0 0 (σ.1 9 j 10).toNat) 17 j 17 i 0 0 (σ.1 9 j 10).toNat) 18 j 18 i 0 0 (σ.1 9 j 14).toNat)) 9 j 9)
      have F1 := sx_f_r ff (k := 9) (j := 9) (((sn_cp (sn_cp (sn_cp (sn_cp (sn_cp (sn_cp (sn_cp (sn_cp (sn_cp σ.1 10 j 10 i 0 0 (σ.1 9 j 9).toNat) 11 j 11 i 0 0 (σ.1 9 j 9).toNat) 12 j 12 i 0 0 (σ.1 9 j 9).toNat) 13 j 13 i 0 0 (σ.1 9 j 9).toNat) 14 j 14 i 0 0 (σ.1 9 j 10).toNat) 15 j 15 i 0 0 (σ.1 9 j 10).toNat) 16 j 16 i 0 0 (σ.1 9 j 10).toNat) 17 j 17 i 0 0 (σ.1 9 j 10).toNat) 18 j 18 i 0 0 (σ.1 9 j 14).toNat)) 9 j 9) (by omega)
      -- five numbers more
      have more : ∀ (τ : sn_M) (X : sX), sx_v X i τ → sx_v (s_X S) j τ → sx_f i σ τ → X.1 0 = s_mx (S.1 0) (σ.1 10 i) S.2.1 → X.1 1 = s_mx (S.1 1) (σ.1 11 i) S.2.1 → X.1 2 = s_mx (S.1 2) (σ.1 12 i) S.2.1 → X.1 3 = s_mx (S.1 3) (σ.1 13 i) S.2.1 → X.1 4 = s_mx (S.1 4) (σ.1 14 i) S.2.2.1 → X.1 5 = s_mx (S.1 5) (σ.1 15 i) S.2.2.1 → X.1 6 = s_mx (S.1 6) (σ.1 16 i) S.2.2.1 → X.1 7 = s_mx (S.1 7) (σ.1 17 i) S.2.2.1 → X.1 8 = s_mx (S.1 8) (σ.1 18 i) S.2.2.2 → X.2 9 = (S.2.1 : Int) →
          post none (sn_u (sn_u (sn_u (sn_u (sn_u τ.1 9 i 10 (τ.1 9 j 10)) 9 i 11 (sn_u τ.1 9 i 10 (τ.1 9 j 10) 9 j 11)) 9 i 12 (sn_u (sn_u τ.1 9 i 10 (τ.1 9 j 10)) 9 i 11 (sn_u τ.1 9 i 10 (τ.1 9 j 10) 9 j 11) 9 j 12)) 9 i 13 (sn_u (sn_u (sn_u τ.1 9 i 10 (τ.1 9 j 10)) 9 i 11 (sn_u τ.1 9 i 10 (τ.1 9 j 10) 9 j 11)) 9 i 12 (sn_u (sn_u τ.1 9 i 10 (τ.1 9 j 10)) 9 i 11 (sn_u τ.1 9 i 10 (τ.1 9 j 10) 9 j 11) 9 j 12) 9 j 13)) 9 i 14 (sn_u (sn_u (sn_u (sn_u τ.1 9 i 10 (τ.1 9 j 10)) 9 i 11 (sn_u τ.1 9 i 10 (τ.1 9 j 10) 9 j 11)) 9 i 12 (sn_u (sn_u τ.1 9 i 10 (τ.1 9 j 10)) 9 i 11 (sn_u τ.1 9 i 10 (τ.1 9 j 10) 9 j 11) 9 j 12)) 9 i 13 (sn_u (sn_u (sn_u τ.1 9 i 10 (τ.1 9 j 10)) 9 i 11 (sn_u τ.1 9 i 10 (τ.1 9 j 10) 9 j 11)) 9 i 12 (sn_u (sn_u τ.1 9 i 10 (τ.1 9 j 10)) 9 i 11 (sn_u τ.1 9 i 10 (τ.1 9 j 10) 9 j 11) 9 j 12) 9 j 13) 9 j 14), τ.2) := by
        intro τ X vX vS fX x0 x1 x2 x3 x4 x5 x6 x7 x8 x9
        have q10 := sx_9 vS (j := 10) (by omega)
        have D2 := sx_s vX 10 (τ.1 9 j 10)
        have E2 := sx_s_o vS hij 10 (τ.1 9 j 10)
        have q11 := sx_9 E2 (j := 11) (by omega)
        have D3 := sx_s D2 11 (sn_u τ.1 9 i 10 (τ.1 9 j 10) 9 j 11)
        have E3 := sx_s_o E2 hij 11 (sn_u τ.1 9 i 10 (τ.1 9 j 10) 9 j 11)
        have q12 := sx_9 E3 (j := 12) (by omega)
        have D4 := sx_s D3 12 (sn_u (sn_u τ.1 9 i 10 (τ.1 9 j 10)) 9 i 11 (sn_u τ.1 9 i 10 (τ.1 9 j 10) 9 j 11) 9 j 12)
        have E4 := sx_s_o E3 hij 12 (sn_u (sn_u τ.1 9 i 10 (τ.1 9 j 10)) 9 i 11 (sn_u τ.1 9 i 10 (τ.1 9 j 10) 9 j 11) 9 j 12)
        have q13 := sx_9 E4 (j := 13) (by omega)
        have D5 := sx_s D4 13 (sn_u (sn_u (sn_u τ.1 9 i 10 (τ.1 9 j 10)) 9 i 11 (sn_u τ.1 9 i 10 (τ.1 9 j 10) 9 j 11)) 9 i 12 (sn_u (sn_u τ.1 9 i 10 (τ.1 9 j 10)) 9 i 11 (sn_u τ.1 9 i 10 (τ.1 9 j 10) 9 j 11) 9 j 12) 9 j 13)
        have E5 := sx_s_o E4 hij 13 (sn_u (sn_u (sn_u τ.1 9 i 10 (τ.1 9 j 10)) 9 i 11 (sn_u τ.1 9 i 10 (τ.1 9 j 10) 9 j 11)) 9 i 12 (sn_u (sn_u τ.1 9 i 10 (τ.1 9 j 10)) 9 i 11 (sn_u τ.1 9 i 10 (τ.1 9 j 10) 9 j 11) 9 j 12) 9 j 13)
        have q14 := sx_9 E5 (j := 14) (by omega)
        have D6 := sx_s D5 14 (sn_u (sn_u (sn_u (sn_u τ.1 9 i 10 (τ.1 9 j 10)) 9 i 11 (sn_u τ.1 9 i 10 (τ.1 9 j 10) 9 j 11)) 9 i 12 (sn_u (sn_u τ.1 9 i 10 (τ.1 9 j 10)) 9 i 11 (sn_u τ.1 9 i 10 (τ.1 9 j 10) 9 j 11) 9 j 12)) 9 i 13 (sn_u (sn_u (sn_u τ.1 9 i 10 (τ.1 9 j 10)) 9 i 11 (sn_u τ.1 9 i 10 (τ.1 9 j 10) 9 j 11)) 9 i 12 (sn_u (sn_u τ.1 9 i 10 (τ.1 9 j 10)) 9 i 11 (sn_u τ.1 9 i 10 (τ.1 9 j 10) 9 j 11) 9 j 12) 9 j 13) 9 j 14)
        have ce : ∀ k, cn_ct (s_mx (S.1 0) (σ.1 10 i) S.2.1) k S.2.1 = cn_ct (S.1 0) k S.2.1 := fun k => cn_ct_ext k _ (fun l hl => s_mx_l hl)
        refine h (s_cp S (fun a => σ.1 (10 + a) i)) _ (s_cp_eq _ _) (sx_e D6 ⟨x0.symm, x1.symm, x2.symm, x3.symm, x4.symm, x5.symm, x6.symm, x7.symm, x8.symm⟩ ⟨x9.symm, q10.symm, ?_, ?_, ?_, q14.symm⟩) (sx_f_r (sx_f_r (sx_f_r (sx_f_r (sx_f_r fX _ (by omega)) _ (by omega)) _ (by omega)) _ (by omega)) _ (by omega))
        · exact (ce _).trans q11.symm
        · exact (ce _).trans q12.symm
        · exact (ce _).trans q13.symm
      refine more _ _ D1 E1 F1 ?_ ?_ ?_ ?_ ?_ ?_ ?_ ?_ ?_ w1
      · show s_mx (S.1 0) (σ.1 10 i) (σ.1 9 j 9).toNat = _
        rw [t9]
      · show s_mx (S.1 1) (σ.1 11 i) (σ.1 9 j 9).toNat = _
        rw [t9]
      · show s_mx (S.1 2) (σ.1 12 i) (σ.1 9 j 9).toNat = _
        rw [t9]
      · show s_mx (S.1 3) (σ.1 13 i) (σ.1 9 j 9).toNat = _
        rw [t9]
      · show s_mx (S.1 4) (σ.1 14 i) (σ.1 9 j 10).toNat = _
        rw [t10]
      · show s_mx (S.1 5) (σ.1 15 i) (σ.1 9 j 10).toNat = _
        rw [t10]
      · show s_mx (S.1 6) (σ.1 16 i) (σ.1 9 j 10).toNat = _
        rw [t10]
      · show s_mx (S.1 7) (σ.1 17 i) (σ.1 9 j 10).toNat = _
        rw [t10]
      · show s_mx (S.1 8) (σ.1 18 i) (σ.1 9 j 14).toNat = _
        rw [t14]
    · exact h.elim
