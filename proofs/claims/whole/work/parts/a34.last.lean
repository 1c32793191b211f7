/-! All calls; the start; the claim. -/
theorem sg_k {k : Nat} (h1 : ¬ k = 19) (h2 : ¬ k = 33) (i j : Nat) : sg_0.1 k i j = 0 := by
  show (bif (Nat.beq k 19 && Nat.beq j 4) || (Nat.beq k 33 && Nat.beq j 8) then (-1 : Int) else 0) = 0
  have e1 : Nat.beq k 19 = false := by
    cases h : Nat.beq k 19 with
    | false => rfl
    | true => exact absurd (Nat.eq_of_beq_eq_true h) h1
  have e2 : Nat.beq k 33 = false := by
    cases h : Nat.beq k 33 with
    | false => rfl
    | true => exact absurd (Nat.eq_of_beq_eq_true h) h2
  rw [e1, e2]
  rfl
theorem sg_s (T : fT) (i : Nat) : in_s T (s_0 s_00) (s_0 s_00) i sg_0 := by
  refine ⟨⟨fun a ha => ?_, fun j h1 h2 => ?_⟩, ⟨fun a l ha hl => sg_k (by omega) (by omega) _ _, fun a e h1 h2 he => sg_k (by omega) (by omega) _ _, sg_k (by decide) (by decide) _ _, sg_k (by decide) (by decide) _ _, sg_k (by decide) (by decide) _ _⟩, s_eq_rf _, s_0_ok T s_00⟩
  · funext c
    exact sg_k (by omega) (by omega) _ _
  · rw [sg_k (by decide) (by decide)]
    have : j = 9 ∨ j = 10 ∨ j = 11 ∨ j = 12 ∨ j = 13 ∨ j = 14 := by omega
    rcases this with rfl | rfl | rfl | rfl | rfl | rfl <;> rfl
theorem sg_I : in_I LSP 0 sg_0 := by
  have r : ∀ k, ¬ k = 19 → ¬ k = 33 → sg_0.1 k 0 = fun _ => 0 := fun k h1 h2 => funext (fun j => sg_k h1 h2 0 j)
  refine ⟨(fun _ _ => 0, 0), s_0 s_00, s_0 s_00, s_0 s_00, s_0 s_00, ⟨⟨⟨r 2 (by decide) (by decide), r 3 (by decide) (by decide), r 4 (by decide) (by decide), r 5 (by decide) (by decide), r 6 (by decide) (by decide)⟩, sg_k (by decide) (by decide) _ _⟩, ⟨fun g hg => absurd hg (Nat.not_lt_zero g), sg_k (by decide) (by decide) _ _⟩, ⟨fun f hf => absurd hf (Nat.not_lt_zero f), fun f g hf => absurd hf (Nat.not_lt_zero f), fun f hf => absurd hf (Nat.not_lt_zero f), fun f hf => absurd hf (Nat.not_lt_zero f), fun f hf => absurd hf (Nat.not_lt_zero f)⟩, by show 0 ≤ 80; omega⟩, sg_s _ 0, sg_s _ 1, Or.inl rfl⟩
theorem all_ops : ∀ j, j < 24 → lw_O (in_I LSP) j := by
  intro j hj
  match j, hj with
  | 0, _ => exact op_atom LSP_F
  | 1, _ => exact op_pair LSP_F
  | 2, _ => exact op_dual LSP_F
  | 3, _ => exact op_formula LSP_F
  | 4, _ => exact op_clear LSP_F
  | 5, _ => exact op_axiom LSP_F
  | 6, _ => exact op_link LSP_F
  | 7, _ => exact op_cut LSP_F
  | 8, _ => exact op_conclude LSP_F
  | 9, _ => exact op_look LSP_F
  | 10, _ => exact op_type LSP_F
  | 11, _ => exact op_conclusion LSP_F
  | 12, _ => exact op_links LSP_F
  | 13, _ => exact op_judge LSP_F
  | 14, _ => exact op_fault LSP_F
  | 15, _ => exact op_cuts LSP_F
  | 16, _ => exact op_reduce LSP_F
  | 17, _ => exact op_normalise LSP_F
  | 18, _ => exact op_keep LSP_F
  | 19, _ => exact op_same LSP_F
  | 20, _ => exact op_rule LSP_F
  | 21, _ => exact op_linkings
  | 22, _ => exact op_partner
  | 23, _ => exact op_build
  | j + 24, h => exact absurd h (by omega)
theorem i_vc : Claimed_1_1 ∧ Claimed_1_2 := lw_vc (in_I LSP) all_ops sg_I
