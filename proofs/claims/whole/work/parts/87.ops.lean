/-! Calls that only look. -/
theorem in_csE {T : fT} {S S' : sT} {i : Nat} {σ : sn_M} (h : in_s T S S' i σ) (e : Int) : (cs_e σ i e ↔ s_al S e) ∧ (cs_f σ i e ↔ s_fr S e) := by
  obtain ⟨hx, -, -, hok⟩ := h
  have e10 : σ.1 9 i 10 = (S.2.2.1 : Int) := sx_9 hx (by omega)
  have r4 : σ.1 14 i = S.1 4 := hx.1 4 (by omega)
  have r6 : σ.1 16 i = S.1 6 := hx.1 6 (by omega)
  have r7 : σ.1 17 i = S.1 7 := hx.1 7 (by omega)
  have key : cs_e σ i e ↔ s_al S e := by
    unfold cs_e s_al
    rw [e10, r4]
    constructor
    · rintro ⟨h1, h2, h3⟩
      have := (hok.2.2.1 e.toNat (by omega)).1
      exact ⟨h1, h2, by omega⟩
    · rintro ⟨h1, h2, h3⟩
      exact ⟨h1, h2, by omega⟩
  refine ⟨key, ?_⟩
  show cs_e σ i e ∧ σ.1 16 i e.toNat = -1 ∧ σ.1 17 i e.toNat = -1 ↔ s_al S e ∧ S.1 6 e.toNat = -1 ∧ S.1 7 e.toNat = -1
  rw [key, r6, r7]
theorem in_mdE {T : fT} {S S' : sT} {i : Nat} {σ : sn_M} (h : in_s T S S' i σ) (e : Int) : (md_e σ i e ↔ s_al S e) ∧ (md_f σ i e ↔ s_fr S e) := by
  have m := (in_46 h).2.1
  have hok := h.2.2.2
  have k4 : ∀ e : Int, 0 ≤ e → e < (S.2.2.1 : Int) → σ.1 53 0 (100 * i + e.toNat) = S.1 4 e.toNat := fun e h1 h2 => in_e h (a := 4) (by omega) (by omega) (by omega) rfl rfl
  have k6 : ∀ e : Int, 0 ≤ e → e < (S.2.2.1 : Int) → σ.1 55 0 (100 * i + e.toNat) = S.1 6 e.toNat := fun e h1 h2 => in_e h (a := 6) (by omega) (by omega) (by omega) rfl rfl
  have k7 : ∀ e : Int, 0 ≤ e → e < (S.2.2.1 : Int) → σ.1 56 0 (100 * i + e.toNat) = S.1 7 e.toNat := fun e h1 h2 => in_e h (a := 7) (by omega) (by omega) (by omega) rfl rfl
  have key : md_e σ i e ↔ s_al S e := by
    unfold md_e s_al
    rw [m]
    constructor
    · rintro ⟨h1, h2, h3⟩
      rw [k4 e h1 h2] at h3
      exact ⟨h1, h2, h3⟩
    · rintro ⟨h1, h2, h3⟩
      exact ⟨h1, h2, by rw [k4 e h1 h2]; exact h3⟩
  refine ⟨key, ?_⟩
  constructor
  · rintro ⟨h1, h2, h3⟩
    have a := key.mp h1
    have w := hok.2.2.1 e.toNat (by have := a.1; have := a.2.1; omega)
    rw [k6 e a.1 a.2.1] at h2
    rw [k7 e a.1 a.2.1] at h3
    have := w.2.1
    have := w.2.2.1
    exact ⟨a, by omega, by omega⟩
  · rintro ⟨a, h2, h3⟩
    exact ⟨key.mpr a, by rw [k6 e a.1 a.2.1]; omega, by rw [k7 e a.1 a.2.1]; omega⟩
/-- two pure answers that are the same -/
theorem op_pure {Inv : Nat → sn_M → Prop} {yC yM : MethodName} {cC cM : ByteArray} {lC lM N dC dM : Nat} {rC rM : Option FieldType} {spC spM : sn_P} (hdC : dC ≤ 90) (hdM : dM ≤ 90) (hC : sn_CT yC (Cond.code yC cC lC rC :: sn_ws) dC spC) (hM : sn_CT yM (Cond.code yM cM lM rM :: sn_ws) dM spM)
    (h : ∀ (n : Nat) (σ : sn_M) (xs : Nat → Int32) (i : Nat), Inv n σ → (∀ k i j, sn_R (σ.1 k i j)) → ∃ V : Int, (∀ po : Option sn_V → sn_M → Prop, po (some (.inl V)) σ → spC (.inr (.inr (0, 0)) :: lw_as xs i N) σ po) ∧ ∀ po : Option sn_V → sn_M → Prop, (∀ σ', Inv (n + 1) σ' → po (some (.inl V)) σ') → spM (.inr (.inr (40, 0)) :: lw_as xs i N) σ po) : lw_V Inv yC cC lC rC yM cM lM rM N :=
  ⟨dC, dM, spC, spM, hdC, hdM, hC, hM, fun n σ xs i hI _ hR => by
    obtain ⟨V, h1, h2⟩ := h n σ xs i hI hR
    exact h1 _ ⟨V, rfl, fun _ => h2 _ (fun σ' hI' => ⟨rfl, hI'⟩)⟩⟩
theorem op_type {LS : fT → sn_M → Prop} (hF : in_F LS) : lw_O (in_I LS) 10 := by
  refine op_pure (by decide) (by decide) ct_SN_type ct_MD_type (fun n σ xs i hI hR => ?_)
  obtain ⟨T, S0, S0', S1, S1', hv⟩ := hI
  have b2 := hv.2.1.2.2.2.1.2.1
  have e10 : σ.1 9 0 10 = (S0.2.2.1 : Int) := sx_9 hv.2.1.1 (by omega)
  have r4 : σ.1 14 0 = S0.1 4 := hv.2.1.1.1 4 (by omega)
  generalize hx : (xs (i + 1 + 0)).toInt = e
  have has : lw_as xs i 1 = [.inl e] := by rw [← hx]; rfl
  rw [has]
  by_cases hal : s_al S0 e
  · refine ⟨S0.1 4 e.toNat, fun po hpo G => ?_, fun po hpo G => ?_⟩
    · refine And.intro rfl (And.intro (show σ.1 9 0 10 ≤ 100 by rw [e10]; omega) ?_)
      show ((if cs_e σ 0 e then (1 : Int) else 0) = 0 → _) ∧ (¬ (if cs_e σ 0 e then (1 : Int) else 0) = 0 → _)
      rw [if_pos ((in_csE hv.2.1 e).1.mpr hal)]
      refine And.intro (fun z => by omega) (fun _ => And.intro (show 0 ≤ e ∧ e < (100 : Nat) by have := hal.1; have := hal.2.1; omega) ?_)
      show po (some (.inl (σ.1 14 0 e.toNat))) σ
      rw [r4]
      exact hpo
    · have hc := in_c hF hv 0
      refine And.intro rfl (And.intro ⟨by omega, in_ok hc.2.1 (by omega)⟩ ?_)
      show ((if md_e (sn_u σ.1 40 0 0 0, σ.2) 0 e then (1 : Int) else 0) = 0 → _) ∧ (¬ (if md_e (sn_u σ.1 40 0 0 0, σ.2) 0 e then (1 : Int) else 0) = 0 → _)
      rw [if_pos ((in_mdE hc.2.1 e).1.mpr hal)]
      refine And.intro (fun z => by omega) (fun _ => And.intro (show 0 ≤ e ∧ e < (400 : Nat) by have := hal.1; have := hal.2.1; omega) ?_)
      show po (some (.inl ((sn_u σ.1 40 0 0 0) 53 0 e.toNat))) (sn_u σ.1 40 0 0 0, σ.2)
      rw [show (sn_u σ.1 40 0 0 0) 53 0 e.toNat = S0.1 4 e.toNat from in_e hc.2.1 (a := 4) (by omega) (by omega) (by have := hal.1; have := hal.2.1; omega) rfl (by omega)]
      exact hpo _ ⟨T, S0, S0', S1, S1', hc⟩
  · refine ⟨-1, fun po hpo G => ?_, fun po hpo G => ?_⟩
    · refine And.intro rfl (And.intro (show σ.1 9 0 10 ≤ 100 by rw [e10]; omega) ?_)
      show ((if cs_e σ 0 e then (1 : Int) else 0) = 0 → _) ∧ (¬ (if cs_e σ 0 e then (1 : Int) else 0) = 0 → _)
      rw [if_neg (fun z => hal ((in_csE hv.2.1 e).1.mp z))]
      exact And.intro (fun _ => hpo) (fun z => absurd rfl z)
    · have hc := in_c hF hv 0
      refine And.intro rfl (And.intro ⟨by omega, in_ok hc.2.1 (by omega)⟩ ?_)
      show ((if md_e (sn_u σ.1 40 0 0 0, σ.2) 0 e then (1 : Int) else 0) = 0 → _) ∧ (¬ (if md_e (sn_u σ.1 40 0 0 0, σ.2) 0 e then (1 : Int) else 0) = 0 → _)
      rw [if_neg (fun z => hal ((in_mdE hc.2.1 e).1.mp z))]
      exact And.intro (fun _ => hpo _ ⟨T, S0, S0', S1, S1', hc⟩) (fun z => absurd rfl z)
theorem op_conclusion {LS : fT → sn_M → Prop} (hF : in_F LS) : lw_O (in_I LS) 11 := by
  refine op_pure (by decide) (by decide) ct_SN_conclusion ct_MD_conclusion (fun n σ xs i hI hR => ?_)
  obtain ⟨T, S0, S0', S1, S1', hv⟩ := hI
  have b3 := hv.2.1.2.2.2.1.2.2
  have e14 : σ.1 9 0 14 = (S0.2.2.2 : Int) := sx_9 hv.2.1.1 (by omega)
  have r8 : σ.1 18 0 = S0.1 8 := hv.2.1.1.1 8 (by omega)
  generalize hx : (xs (i + 1 + 0)).toInt = e
  have has : lw_as xs i 1 = [.inl e] := by rw [← hx]; rfl
  rw [has]
  have hc := in_c hF hv 0
  have m48 : (sn_u σ.1 40 0 0 0) 48 0 0 = (S0.2.2.2 : Int) := (in_46 hc.2.1).2.2
  have c4 : (0 : Int) ≤ 0 ∧ (0 : Int) < (4 : Nat) := by omega
  by_cases h0 : 0 ≤ e
  · by_cases h1 : e < (S0.2.2.2 : Int)
    · refine ⟨S0.1 8 e.toNat, fun po hpo G => ?_, fun po hpo G => ?_⟩
      · refine And.intro (fun z => absurd (show e < 0 from z) (by omega)) (fun _ => And.intro (fun _ => And.intro (show 0 ≤ e ∧ e < (100 : Nat) by omega) ?_) (fun z => absurd (show σ.1 9 0 14 ≤ e from z) (by rw [e14]; omega)))
        show po (some (.inl (σ.1 18 0 e.toNat))) σ
        rw [r8]
        exact hpo
      · refine And.intro (fun z => absurd (show e < 0 from z) (by omega)) (fun _ => And.intro c4 (And.intro (fun _ => And.intro (show 0 ≤ e ∧ e < (400 : Nat) by omega) ?_) (fun z => absurd (show (sn_u σ.1 40 0 0 0) 48 0 0 ≤ e from z) (by rw [m48]; omega))))
        show po (some (.inl ((sn_u σ.1 40 0 0 0) 57 0 e.toNat))) (sn_u σ.1 40 0 0 0, σ.2)
        rw [show (sn_u σ.1 40 0 0 0) 57 0 e.toNat = S0.1 8 e.toNat from in_n hc.2.1 (by omega) (by omega)]
        exact hpo _ ⟨T, S0, S0', S1, S1', hc⟩
    · refine ⟨-1, fun po hpo G => ?_, fun po hpo G => ?_⟩
      · exact And.intro (fun _ => hpo) (fun _ => And.intro (fun z => absurd (show e < σ.1 9 0 14 from z) (by rw [e14]; omega)) (fun _ => hpo))
      · have g := hpo _ ⟨T, S0, S0', S1, S1', hc⟩
        exact And.intro (fun _ => g) (fun _ => And.intro c4 (And.intro (fun z => absurd (show e < (sn_u σ.1 40 0 0 0) 48 0 0 from z) (by rw [m48]; omega)) (fun _ => g)))
  · refine ⟨-1, fun po hpo G => ?_, fun po hpo G => ?_⟩
    · exact And.intro (fun _ => hpo) (fun z => absurd (show 0 ≤ e from z) h0)
    · have g := hpo _ ⟨T, S0, S0', S1, S1', hc⟩
      exact And.intro (fun _ => g) (fun z => absurd (show 0 ≤ e from z) h0)
