/-! look, formula, clear, conclude, keep, reduce. -/
def s_lk (S : sT) (l : Int) : Prop := 0 ≤ l ∧ l < (S.2.1 : Int) ∧ 0 ≤ S.1 0 l.toNat
theorem md_isLink {T : fT} {S S' : sT} {σ : sn_M} (h : in_s T S S' 0 σ) (l : Int) (po : Option sn_V → sn_M → Prop) (h1 : s_lk S l → po (some (.inl 1)) σ) (h2 : ¬ s_lk S l → po (some (.inl 0)) σ) : sp_MD_isLink [.inr (.inr (40, 0)), .inl l] σ po := by
  have m := (in_46 h).1
  have b1 := h.2.2.2.1.1
  refine fun G => And.intro (fun z => And.intro (Or.inl rfl) (h2 (fun y => by have := y.1; have z : l < 0 := z; omega))) (fun z => ?_)
  have z : 0 ≤ l := z
  refine And.intro (show (0 : Int) ≤ 0 ∧ (0 : Int) < (4 : Nat) by omega) (And.intro (fun y => ?_) (fun y => And.intro (Or.inl rfl) (h2 (fun w => by have y : σ.1 46 0 0 ≤ l := y; rw [m] at y; have := w.2.1; omega))))
  have y : l < σ.1 46 0 0 := y
  rw [m] at y
  have k : σ.1 49 0 l.toNat = S.1 0 l.toNat := in_l h (a := 0) (by omega) (by omega) rfl (by omega)
  refine And.intro (show 0 ≤ l ∧ l < (240 : Nat) by omega) (And.intro (fun w => And.intro (Or.inl rfl) (h2 (fun v => ?_))) (fun w => And.intro (Or.inr rfl) (h1 ⟨z, y, ?_⟩)))
  · have w : σ.1 49 0 l.toNat < 0 := w
    rw [k] at w
    have := v.2.2
    omega
  · have w : 0 ≤ σ.1 49 0 l.toNat := w
    rw [k] at w
    exact w
theorem op_look {LS : fT → sn_M → Prop} (hF : in_F LS) : lw_O (in_I LS) 9 := by
  refine op_pure (by decide) (by decide) ct_SN_look ct_MD_look (fun n σ xs i hI hR => ?_)
  obtain ⟨T, S0, S0', S1, S1', hv⟩ := hI
  have b1 := hv.2.1.2.2.2.1.1
  have e9 : σ.1 9 0 9 = (S0.2.1 : Int) := sx_9 hv.2.1.1 (by omega)
  have r0 : σ.1 10 0 = S0.1 0 := hv.2.1.1.1 0 (by omega)
  have r1 : σ.1 11 0 = S0.1 1 := hv.2.1.1.1 1 (by omega)
  have r2 : σ.1 12 0 = S0.1 2 := hv.2.1.1.1 2 (by omega)
  have r3 : σ.1 13 0 = S0.1 3 := hv.2.1.1.1 3 (by omega)
  generalize hx : (xs (i + 1 + 0)).toInt = l
  generalize hy : (xs (i + 1 + 1)).toInt = w
  have has : lw_as xs i 2 = [.inl l, .inl w] := by rw [← hx, ← hy]; rfl
  rw [has]
  have hc := in_c hF hv 0
  have gI : ∀ po : Option sn_V → sn_M → Prop, ∀ V, (∀ σ', in_I LS (n + 1) σ' → po (some (.inl V)) σ') → po (some (.inl V)) (sn_u σ.1 40 0 0 0, σ.2) := fun po V h => h _ ⟨T, S0, S0', S1, S1', hc⟩
  by_cases hal : s_lk S0 l
  · obtain ⟨a1, a2, a3⟩ := id hal
    have il : (0 : Int) ≤ l ∧ l < (60 : Nat) := by omega
    have il2 : (0 : Int) ≤ l ∧ l < (240 : Nat) := by omega
    have cls : ∀ po : Option sn_V → sn_M → Prop, (w < 0 ∨ 3 < w → po (some (.inl (-1))) σ) → (w = 0 → po (some (.inl (S0.1 0 l.toNat))) σ) → (w = 1 → po (some (.inl (S0.1 1 l.toNat))) σ) → (w = 2 → po (some (.inl (S0.1 2 l.toNat))) σ) → (w = 3 → po (some (.inl (S0.1 3 l.toNat))) σ) → sp_SN_look [.inr (.inr (0, 0)), .inl l, .inl w] σ po := by
      intro po p1 p2 p3 p4 p5 G
      refine And.intro rfl (And.intro (show σ.1 9 0 9 ≤ 60 by rw [e9]; omega) (And.intro (fun _ => ?_) (fun z => absurd (show 0 ≤ l ∧ l < σ.1 9 0 9 ∧ ¬ σ.1 10 0 l.toNat = -1 from ⟨a1, by rw [e9]; exact a2, by rw [r0]; omega⟩) z)))
      refine And.intro (fun z => by have z : (1 : Int) = 0 := z; omega) (fun _ => ?_)
      rw [← r0] at p2
      rw [← r1] at p3
      rw [← r2] at p4
      rw [← r3] at p5
      exact And.intro p1 (And.intro (fun z => And.intro il (p2 z)) (And.intro (fun z => And.intro il (p3 (by have z : w = 0 + 1 := z; omega))) (And.intro (fun z => And.intro il (p4 (by have z : w = 0 + 1 + 1 := z; omega))) (And.intro (fun z => And.intro il (p5 (by have z : w = 0 + 1 + 1 + 1 := z; omega))) trivial))))
    have ref : ∀ po : Option sn_V → sn_M → Prop, (w < 0 ∨ 3 < w → po (some (.inl (-1))) (sn_u σ.1 40 0 0 0, σ.2)) → (w = 0 → po (some (.inl (S0.1 0 l.toNat))) (sn_u σ.1 40 0 0 0, σ.2)) → (w = 1 → po (some (.inl (S0.1 1 l.toNat))) (sn_u σ.1 40 0 0 0, σ.2)) → (w = 2 → po (some (.inl (S0.1 2 l.toNat))) (sn_u σ.1 40 0 0 0, σ.2)) → (w = 3 → po (some (.inl (S0.1 3 l.toNat))) (sn_u σ.1 40 0 0 0, σ.2)) → sp_MD_look [.inr (.inr (40, 0)), .inl l, .inl w] σ po := by
      intro po p1 p2 p3 p4 p5 G
      refine md_isLink hc.2.1 l _ (fun _ => ?_) (fun z => absurd hal z)
      refine And.intro (fun z => by have z : (1 : Int) = 0 := z; omega) (fun _ => ?_)
      have q0 : (sn_u σ.1 40 0 0 0) 49 0 l.toNat = S0.1 0 l.toNat := in_l hc.2.1 (a := 0) (by omega) (by omega) rfl (by omega)
      have q1 : (sn_u σ.1 40 0 0 0) 50 0 l.toNat = S0.1 1 l.toNat := in_l hc.2.1 (a := 1) (by omega) (by omega) rfl (by omega)
      have q2 : (sn_u σ.1 40 0 0 0) 51 0 l.toNat = S0.1 2 l.toNat := in_l hc.2.1 (a := 2) (by omega) (by omega) rfl (by omega)
      have q3 : (sn_u σ.1 40 0 0 0) 52 0 l.toNat = S0.1 3 l.toNat := in_l hc.2.1 (a := 3) (by omega) (by omega) rfl (by omega)
      rw [← q0] at p2
      rw [← q1] at p3
      rw [← q2] at p4
      rw [← q3] at p5
      refine And.intro (fun z => p1 (Or.inl z)) (fun z0 => And.intro (fun z1 => ?_) (fun z1 => p1 (Or.inr z1)))
      have z0 : 0 ≤ w := z0
      have z1 : w ≤ 3 := z1
      refine And.intro (fun z => And.intro il2 (p2 z)) (fun z => And.intro (fun y => And.intro il2 (p3 y)) (fun y => And.intro (fun x => And.intro il2 (p4 x)) (fun x => And.intro il2 (p5 ?_))))
      have z : ¬ w = 0 := z
      have y : ¬ w = 1 := y
      have x : ¬ w = 2 := x
      omega
    by_cases w0 : w = 0
    · exact ⟨S0.1 0 l.toNat, fun po h => cls po (fun z => by omega) (fun _ => h) (fun z => by omega) (fun z => by omega) (fun z => by omega), fun po h => ref po (fun z => by omega) (fun _ => gI po _ h) (fun z => by omega) (fun z => by omega) (fun z => by omega)⟩
    · by_cases w1 : w = 1
      · exact ⟨S0.1 1 l.toNat, fun po h => cls po (fun z => by omega) (fun z => by omega) (fun _ => h) (fun z => by omega) (fun z => by omega), fun po h => ref po (fun z => by omega) (fun z => by omega) (fun _ => gI po _ h) (fun z => by omega) (fun z => by omega)⟩
      · by_cases w2 : w = 2
        · exact ⟨S0.1 2 l.toNat, fun po h => cls po (fun z => by omega) (fun z => by omega) (fun z => by omega) (fun _ => h) (fun z => by omega), fun po h => ref po (fun z => by omega) (fun z => by omega) (fun z => by omega) (fun _ => gI po _ h) (fun z => by omega)⟩
        · by_cases w3 : w = 3
          · exact ⟨S0.1 3 l.toNat, fun po h => cls po (fun z => by omega) (fun z => by omega) (fun z => by omega) (fun z => by omega) (fun _ => h), fun po h => ref po (fun z => by omega) (fun z => by omega) (fun z => by omega) (fun z => by omega) (fun _ => gI po _ h)⟩
          · exact ⟨-1, fun po h => cls po (fun _ => h) (fun z => by omega) (fun z => by omega) (fun z => by omega) (fun z => by omega), fun po h => ref po (fun _ => gI po _ h) (fun z => by omega) (fun z => by omega) (fun z => by omega) (fun z => by omega)⟩
  · refine ⟨-1, fun po hpo G => ?_, fun po hpo G => ?_⟩
    · refine And.intro rfl (And.intro (show σ.1 9 0 9 ≤ 60 by rw [e9]; omega) (And.intro (fun z => ?_) (fun _ => ?_)))
      · have z : 0 ≤ l ∧ l < σ.1 9 0 9 ∧ ¬ σ.1 10 0 l.toNat = -1 := z
        obtain ⟨z1, z2, z3⟩ := z
        rw [e9] at z2
        rw [r0] at z3
        have := (hv.2.1.2.2.2.2.1 l.toNat (by omega)).1
        exact absurd ⟨z1, z2, by omega⟩ hal
      · exact And.intro (fun _ => hpo) (fun z => absurd rfl z)
    · refine md_isLink hc.2.1 l _ (fun z => absurd z hal) (fun _ => ?_)
      exact And.intro (fun _ => gI po _ hpo) (fun z => absurd rfl z)
theorem op_formula {LS : fT → sn_M → Prop} (hF : in_F LS) : lw_O (in_I LS) 3 := by
  refine op_pure (by decide) (by decide) ct_SN_formula ct_MD_formula (fun n σ xs i hI hR => ?_)
  obtain ⟨T, S0, S0', S1, S1', hv⟩ := hI
  obtain ⟨⟨⟨f0, f1, f2, f3, f4⟩, f5⟩, ⟨m1, m2⟩, hT, hT80⟩ := id hv.1
  generalize hx : (xs (i + 1 + 0)).toInt = l
  generalize hy : (xs (i + 1 + 1)).toInt = w
  have has : lw_as xs i 2 = [.inl l, .inl w] := by rw [← hx, ← hy]; rfl
  rw [has]
  have hc := in_c hF hv 0
  obtain ⟨mc1, mc2⟩ := hc.1.2.1
  have mc2 : (sn_u σ.1 40 0 0 0) 40 0 1 = (T.2 : Int) := mc2
  have gI : ∀ po : Option sn_V → sn_M → Prop, ∀ V, (∀ σ', in_I LS (n + 1) σ' → po (some (.inl V)) σ') → po (some (.inl V)) (sn_u σ.1 40 0 0 0, σ.2) := fun po V h => h _ ⟨T, S0, S0', S1, S1', hc⟩
  by_cases a1 : 0 ≤ l
  · by_cases a2 : l < (T.2 : Int)
    · have il : (0 : Int) ≤ l ∧ l < (80 : Nat) := by omega
      have cls : ∀ po : Option sn_V → sn_M → Prop, (w < 0 ∨ 2 < w → po (some (.inl (-1))) σ) → (w = 0 → po (some (.inl (T.1 0 l.toNat))) σ) → (w = 1 → po (some (.inl (T.1 1 l.toNat))) σ) → (w = 2 → po (some (.inl (T.1 2 l.toNat))) σ) → sp_SN_formula [.inr (.inr (0, 0)), .inl l, .inl w] σ po := by
        intro po p1 p2 p3 p4 G G2
        refine And.intro (fun z => absurd (show l < 0 from z) (by omega)) (fun _ => And.intro (fun _ => And.intro (Or.inr rfl) ?_) (fun z => absurd (show σ.1 1 0 7 ≤ l from z) (by rw [f5]; omega)))
        refine And.intro (fun z => by have z : (1 : Int) = 0 := z; omega) (fun _ => ?_)
        rw [← f0] at p2
        rw [← f1] at p3
        rw [← f2] at p4
        exact And.intro p1 (And.intro (fun z => And.intro il (p2 z)) (And.intro (fun z => And.intro il (p3 (by have z : w = 0 + 1 := z; omega))) (And.intro (fun z => And.intro il (p4 (by have z : w = 0 + 1 + 1 := z; omega))) trivial)))
      have ref : ∀ po : Option sn_V → sn_M → Prop, (w < 0 ∨ 2 < w → po (some (.inl (-1))) (sn_u σ.1 40 0 0 0, σ.2)) → (w = 0 → po (some (.inl (T.1 0 l.toNat))) (sn_u σ.1 40 0 0 0, σ.2)) → (w = 1 → po (some (.inl (T.1 1 l.toNat))) (sn_u σ.1 40 0 0 0, σ.2)) → (w = 2 → po (some (.inl (T.1 2 l.toNat))) (sn_u σ.1 40 0 0 0, σ.2)) → sp_MD_formula [.inr (.inr (40, 0)), .inl l, .inl w] σ po := by
        intro po p1 p2 p3 p4 G G2
        refine And.intro (fun z => absurd (show l < 0 from z) (by omega)) (fun _ => And.intro (fun _ => And.intro (Or.inr rfl) ?_) (fun z => absurd (show (sn_u σ.1 40 0 0 0) 40 0 1 ≤ l from z) (by rw [mc2]; omega)))
        refine And.intro (fun z => by have z : (1 : Int) = 0 := z; omega) (fun _ => ?_)
        obtain ⟨q0, q1, q2⟩ := mc1 l.toNat (by omega)
        rw [← q0] at p2
        rw [← q1] at p3
        rw [← q2] at p4
        refine And.intro (fun z => p1 (Or.inl z)) (fun z0 => And.intro (fun z1 => ?_) (fun z1 => p1 (Or.inr z1)))
        have z0 : 0 ≤ w := z0
        have z1 : w ≤ 2 := z1
        refine And.intro (fun z => And.intro il (p2 z)) (fun z => And.intro (fun y => And.intro il (p3 y)) (fun y => And.intro il (p4 ?_)))
        have z : ¬ w = 0 := z
        have y : ¬ w = 1 := y
        omega
      by_cases w0 : w = 0
      · exact ⟨T.1 0 l.toNat, fun po h => cls po (fun z => by omega) (fun _ => h) (fun z => by omega) (fun z => by omega), fun po h => ref po (fun z => by omega) (fun _ => gI po _ h) (fun z => by omega) (fun z => by omega)⟩
      · by_cases w1 : w = 1
        · exact ⟨T.1 1 l.toNat, fun po h => cls po (fun z => by omega) (fun z => by omega) (fun _ => h) (fun z => by omega), fun po h => ref po (fun z => by omega) (fun z => by omega) (fun _ => gI po _ h) (fun z => by omega)⟩
        · by_cases w2 : w = 2
          · exact ⟨T.1 2 l.toNat, fun po h => cls po (fun z => by omega) (fun z => by omega) (fun z => by omega) (fun _ => h), fun po h => ref po (fun z => by omega) (fun z => by omega) (fun z => by omega) (fun _ => gI po _ h)⟩
          · exact ⟨-1, fun po h => cls po (fun _ => h) (fun z => by omega) (fun z => by omega) (fun z => by omega), fun po h => ref po (fun _ => gI po _ h) (fun z => by omega) (fun z => by omega) (fun z => by omega)⟩
    · refine ⟨-1, fun po hpo G G2 => ?_, fun po hpo G G2 => ?_⟩
      · refine And.intro (fun z => absurd (show l < 0 from z) (by omega)) (fun _ => And.intro (fun z => absurd (show l < σ.1 1 0 7 from z) (by rw [f5]; omega)) (fun _ => And.intro (Or.inl rfl) ?_))
        exact And.intro (fun _ => hpo) (fun z => absurd rfl z)
      · refine And.intro (fun z => absurd (show l < 0 from z) (by omega)) (fun _ => And.intro (fun z => absurd (show l < (sn_u σ.1 40 0 0 0) 40 0 1 from z) (by rw [mc2]; omega)) (fun _ => And.intro (Or.inl rfl) ?_))
        exact And.intro (fun _ => gI po _ hpo) (fun z => absurd rfl z)
  · refine ⟨-1, fun po hpo G G2 => ?_, fun po hpo G G2 => ?_⟩
    · refine And.intro (fun _ => And.intro (Or.inl rfl) ?_) (fun z => absurd (show 0 ≤ l from z) a1)
      exact And.intro (fun _ => hpo) (fun z => absurd rfl z)
    · refine And.intro (fun _ => And.intro (Or.inl rfl) ?_) (fun z => absurd (show 0 ≤ l from z) a1)
      exact And.intro (fun _ => gI po _ hpo) (fun z => absurd rfl z)
