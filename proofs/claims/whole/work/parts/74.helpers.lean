/-! Printed by tools/law.py: what is thrown and where; the law's helpers. -/
def lw_tw : List Cond := tc_ws "SwitchedNetsLaw" 13 15 ++ (sn_tws "SwitchedNets" 57 59 61 (sn_xc 1) "there is no such letter" ++ (sn_tws "SwitchedNets" 57 81 61 (sn_xc 1) "there are no such formulas" ++ (sn_tws "SwitchedNets" 57 83 61 (sn_xc 1) "there is no such formula" ++ (sn_tws "SwitchedNets" 57 123 61 (sn_xc 1) "these are not two free edges" ++ (sn_tws "SwitchedNets" 57 137 61 (sn_xc 1) "these are not two free edges of dual formulas" ++ (sn_tws "SwitchedNets" 68 70 72 (sn_xc 2) "there is no room for a new formula" ++ (sn_tws "SwitchedNets" 68 88 72 (sn_xc 2) "there is no room for the dual" ++ (sn_tws "SwitchedNets" 68 114 72 (sn_xc 2) "there is no room for an axiom or the dual" ++ (sn_tws "SwitchedNets" 68 128 72 (sn_xc 2) "there is no room for a link or its formula" ++ (sn_tws "SwitchedNets" 68 139 72 (sn_xc 2) "there is no room for a cut"))))))))))
theorem tq_59 : ∀ w ∈ sn_tws "SwitchedNets" 57 59 61 (sn_xc 1) "there is no such letter", w ∈ lw_tw := fun w h => List.mem_append_right _ (List.mem_append_left _ h)
theorem tq_81 : ∀ w ∈ sn_tws "SwitchedNets" 57 81 61 (sn_xc 1) "there are no such formulas", w ∈ lw_tw := fun w h => List.mem_append_right _ (List.mem_append_right _ (List.mem_append_left _ h))
theorem tq_83 : ∀ w ∈ sn_tws "SwitchedNets" 57 83 61 (sn_xc 1) "there is no such formula", w ∈ lw_tw := fun w h => List.mem_append_right _ (List.mem_append_right _ (List.mem_append_right _ (List.mem_append_left _ h)))
theorem tq_123 : ∀ w ∈ sn_tws "SwitchedNets" 57 123 61 (sn_xc 1) "these are not two free edges", w ∈ lw_tw := fun w h => List.mem_append_right _ (List.mem_append_right _ (List.mem_append_right _ (List.mem_append_right _ (List.mem_append_left _ h))))
theorem tq_137 : ∀ w ∈ sn_tws "SwitchedNets" 57 137 61 (sn_xc 1) "these are not two free edges of dual formulas", w ∈ lw_tw := fun w h => List.mem_append_right _ (List.mem_append_right _ (List.mem_append_right _ (List.mem_append_right _ (List.mem_append_right _ (List.mem_append_left _ h)))))
theorem tq_70 : ∀ w ∈ sn_tws "SwitchedNets" 68 70 72 (sn_xc 2) "there is no room for a new formula", w ∈ lw_tw := fun w h => List.mem_append_right _ (List.mem_append_right _ (List.mem_append_right _ (List.mem_append_right _ (List.mem_append_right _ (List.mem_append_right _ (List.mem_append_left _ h))))))
theorem tq_88 : ∀ w ∈ sn_tws "SwitchedNets" 68 88 72 (sn_xc 2) "there is no room for the dual", w ∈ lw_tw := fun w h => List.mem_append_right _ (List.mem_append_right _ (List.mem_append_right _ (List.mem_append_right _ (List.mem_append_right _ (List.mem_append_right _ (List.mem_append_right _ (List.mem_append_left _ h)))))))
theorem tq_114 : ∀ w ∈ sn_tws "SwitchedNets" 68 114 72 (sn_xc 2) "there is no room for an axiom or the dual", w ∈ lw_tw := fun w h => List.mem_append_right _ (List.mem_append_right _ (List.mem_append_right _ (List.mem_append_right _ (List.mem_append_right _ (List.mem_append_right _ (List.mem_append_right _ (List.mem_append_right _ (List.mem_append_left _ h))))))))
theorem tq_128 : ∀ w ∈ sn_tws "SwitchedNets" 68 128 72 (sn_xc 2) "there is no room for a link or its formula", w ∈ lw_tw := fun w h => List.mem_append_right _ (List.mem_append_right _ (List.mem_append_right _ (List.mem_append_right _ (List.mem_append_right _ (List.mem_append_right _ (List.mem_append_right _ (List.mem_append_right _ (List.mem_append_right _ (List.mem_append_left _ h)))))))))
theorem tq_139 : ∀ w ∈ sn_tws "SwitchedNets" 68 139 72 (sn_xc 2) "there is no room for a cut", w ∈ lw_tw := fun w h => List.mem_append_right _ (List.mem_append_right _ (List.mem_append_right _ (List.mem_append_right _ (List.mem_append_right _ (List.mem_append_right _ (List.mem_append_right _ (List.mem_append_right _ (List.mem_append_right _ (List.mem_append_right _ (h))))))))))
theorem lw_tc : ∀ w ∈ tc_ws "SwitchedNetsLaw" 13 15, w ∈ lw_tw := fun w h => List.mem_append_left _ h
theorem sn_ml_app {a b : List Cond} (ha : sn_ml a = true) (hb : sn_ml b = true) : sn_ml (a ++ b) = true := by
  refine List.all_eq_true.mpr (fun w hw => ?_)
  rcases List.mem_append.mp hw with h | h
  · have h1 := List.all_eq_true.mp ha w h
    split at h1
    · rfl
    · rfl
    · next o n d => exact decide_eq_true (List.mem_append_left _ (of_decide_eq_true h1))
    · rfl
    · exact h1
  · have h1 := List.all_eq_true.mp hb w h
    split at h1
    · rfl
    · rfl
    · next o n d => exact decide_eq_true (List.mem_append_right _ (of_decide_eq_true h1))
    · rfl
    · exact h1
theorem lw_tw_ml : sn_ml lw_tw = true := sn_ml_app (by decide +kernel) (sn_ml_app (sn_mlx (Or.inl rfl)) (sn_ml_app (sn_mlx (Or.inl rfl)) (sn_ml_app (sn_mlx (Or.inl rfl)) (sn_ml_app (sn_mlx (Or.inl rfl)) (sn_ml_app (sn_mlx (Or.inl rfl)) (sn_ml_app (sn_mlx (Or.inr rfl)) (sn_ml_app (sn_mlx (Or.inr rfl)) (sn_ml_app (sn_mlx (Or.inr rfl)) (sn_ml_app (sn_mlx (Or.inr rfl)) (sn_mlx (Or.inr rfl)))))))))))
def th_SN_atom (pc : Nat) : Option Int := (bif Nat.blt pc 43 then (bif Nat.beq pc 10 then (some 1) else none) else (bif Nat.beq pc 43 then (some 2) else none))
theorem hth_SN_atom : sn_TH prog_1_method_2_code "SwitchedNets" lw_tw th_SN_atom := by
  intro pc k h
  have key : (pc = 10 ∧ k = 1) ∨ (pc = 43 ∧ k = 2) := by
    unfold th_SN_atom at h
    by_cases h10 : pc = 10
    · subst h10
      have : k = 1 := (Option.some.inj (show some (1 : Int) = some k from h)).symm
      simp [this]
    by_cases h43 : pc = 43
    · subst h43
      have : k = 2 := (Option.some.inj (show some (2 : Int) = some k from h)).symm
      simp [this]
    exfalso
    have e10 : Nat.beq pc 10 = false := by cases hb : Nat.beq pc 10 with
      | false => rfl
      | true => exact absurd (Nat.eq_of_beq_eq_true hb) h10
    have e43 : Nat.beq pc 43 = false := by cases hb : Nat.beq pc 43 with
      | false => rfl
      | true => exact absurd (Nat.eq_of_beq_eq_true hb) h43
    simp [e10, e43] at h
    all_goals (try (cases hq : Nat.blt pc 43 <;> simp [hq, e10, e43] at h))
  rcases key with ⟨rfl, rfl⟩ | ⟨rfl, rfl⟩
  · exact ⟨Or.inl rfl, 57, 59, 61, "there is no such letter", by decide +kernel, by decide +kernel, by decide +kernel, by decide +kernel, by decide +kernel, tq_59⟩
  · exact ⟨Or.inr rfl, 68, 70, 72, "there is no room for a new formula", by decide +kernel, by decide +kernel, by decide +kernel, by decide +kernel, by decide +kernel, tq_70⟩
def th_SN_pair (pc : Nat) : Option Int := (bif Nat.blt pc 57 then (bif Nat.beq pc 22 then (some 1) else none) else (bif Nat.beq pc 57 then (some 2) else none))
theorem hth_SN_pair : sn_TH prog_1_method_3_code "SwitchedNets" lw_tw th_SN_pair := by
  intro pc k h
  have key : (pc = 22 ∧ k = 1) ∨ (pc = 57 ∧ k = 2) := by
    unfold th_SN_pair at h
    by_cases h22 : pc = 22
    · subst h22
      have : k = 1 := (Option.some.inj (show some (1 : Int) = some k from h)).symm
      simp [this]
    by_cases h57 : pc = 57
    · subst h57
      have : k = 2 := (Option.some.inj (show some (2 : Int) = some k from h)).symm
      simp [this]
    exfalso
    have e22 : Nat.beq pc 22 = false := by cases hb : Nat.beq pc 22 with
      | false => rfl
      | true => exact absurd (Nat.eq_of_beq_eq_true hb) h22
    have e57 : Nat.beq pc 57 = false := by cases hb : Nat.beq pc 57 with
      | false => rfl
      | true => exact absurd (Nat.eq_of_beq_eq_true hb) h57
    simp [e22, e57] at h
    all_goals (try (cases hq : Nat.blt pc 57 <;> simp [hq, e22, e57] at h))
  rcases key with ⟨rfl, rfl⟩ | ⟨rfl, rfl⟩
  · exact ⟨Or.inl rfl, 57, 81, 61, "there are no such formulas", by decide +kernel, by decide +kernel, by decide +kernel, by decide +kernel, by decide +kernel, tq_81⟩
  · exact ⟨Or.inr rfl, 68, 70, 72, "there is no room for a new formula", by decide +kernel, by decide +kernel, by decide +kernel, by decide +kernel, by decide +kernel, tq_70⟩
def th_SN_dual (pc : Nat) : Option Int := (bif Nat.blt pc 32 then (bif Nat.beq pc 11 then (some 1) else none) else (bif Nat.beq pc 32 then (some 2) else none))
theorem hth_SN_dual : sn_TH prog_1_method_4_code "SwitchedNets" lw_tw th_SN_dual := by
  intro pc k h
  have key : (pc = 11 ∧ k = 1) ∨ (pc = 32 ∧ k = 2) := by
    unfold th_SN_dual at h
    by_cases h11 : pc = 11
    · subst h11
      have : k = 1 := (Option.some.inj (show some (1 : Int) = some k from h)).symm
      simp [this]
    by_cases h32 : pc = 32
    · subst h32
      have : k = 2 := (Option.some.inj (show some (2 : Int) = some k from h)).symm
      simp [this]
    exfalso
    have e11 : Nat.beq pc 11 = false := by cases hb : Nat.beq pc 11 with
      | false => rfl
      | true => exact absurd (Nat.eq_of_beq_eq_true hb) h11
    have e32 : Nat.beq pc 32 = false := by cases hb : Nat.beq pc 32 with
      | false => rfl
      | true => exact absurd (Nat.eq_of_beq_eq_true hb) h32
    simp [e11, e32] at h
    all_goals (try (cases hq : Nat.blt pc 32 <;> simp [hq, e11, e32] at h))
  rcases key with ⟨rfl, rfl⟩ | ⟨rfl, rfl⟩
  · exact ⟨Or.inl rfl, 57, 83, 61, "there is no such formula", by decide +kernel, by decide +kernel, by decide +kernel, by decide +kernel, by decide +kernel, tq_83⟩
  · exact ⟨Or.inr rfl, 68, 88, 72, "there is no room for the dual", by decide +kernel, by decide +kernel, by decide +kernel, by decide +kernel, by decide +kernel, tq_88⟩
def th_SN_axiom (pc : Nat) : Option Int := (bif Nat.blt pc 43 then (bif Nat.beq pc 11 then (some 1) else none) else (bif Nat.beq pc 43 then (some 2) else none))
theorem hth_SN_axiom : sn_TH prog_1_method_7_code "SwitchedNets" lw_tw th_SN_axiom := by
  intro pc k h
  have key : (pc = 11 ∧ k = 1) ∨ (pc = 43 ∧ k = 2) := by
    unfold th_SN_axiom at h
    by_cases h11 : pc = 11
    · subst h11
      have : k = 1 := (Option.some.inj (show some (1 : Int) = some k from h)).symm
      simp [this]
    by_cases h43 : pc = 43
    · subst h43
      have : k = 2 := (Option.some.inj (show some (2 : Int) = some k from h)).symm
      simp [this]
    exfalso
    have e11 : Nat.beq pc 11 = false := by cases hb : Nat.beq pc 11 with
      | false => rfl
      | true => exact absurd (Nat.eq_of_beq_eq_true hb) h11
    have e43 : Nat.beq pc 43 = false := by cases hb : Nat.beq pc 43 with
      | false => rfl
      | true => exact absurd (Nat.eq_of_beq_eq_true hb) h43
    simp [e11, e43] at h
    all_goals (try (cases hq : Nat.blt pc 43 <;> simp [hq, e11, e43] at h))
  rcases key with ⟨rfl, rfl⟩ | ⟨rfl, rfl⟩
  · exact ⟨Or.inl rfl, 57, 83, 61, "there is no such formula", by decide +kernel, by decide +kernel, by decide +kernel, by decide +kernel, by decide +kernel, tq_83⟩
  · exact ⟨Or.inr rfl, 68, 114, 72, "there is no room for an axiom or the dual", by decide +kernel, by decide +kernel, by decide +kernel, by decide +kernel, by decide +kernel, tq_114⟩
def th_SN_link (pc : Nat) : Option Int := (bif Nat.blt pc 98 then (bif Nat.beq pc 27 then (some 1) else none) else (bif Nat.beq pc 98 then (some 2) else none))
theorem hth_SN_link : sn_TH prog_1_method_8_code "SwitchedNets" lw_tw th_SN_link := by
  intro pc k h
  have key : (pc = 27 ∧ k = 1) ∨ (pc = 98 ∧ k = 2) := by
    unfold th_SN_link at h
    by_cases h27 : pc = 27
    · subst h27
      have : k = 1 := (Option.some.inj (show some (1 : Int) = some k from h)).symm
      simp [this]
    by_cases h98 : pc = 98
    · subst h98
      have : k = 2 := (Option.some.inj (show some (2 : Int) = some k from h)).symm
      simp [this]
    exfalso
    have e27 : Nat.beq pc 27 = false := by cases hb : Nat.beq pc 27 with
      | false => rfl
      | true => exact absurd (Nat.eq_of_beq_eq_true hb) h27
    have e98 : Nat.beq pc 98 = false := by cases hb : Nat.beq pc 98 with
      | false => rfl
      | true => exact absurd (Nat.eq_of_beq_eq_true hb) h98
    simp [e27, e98] at h
    all_goals (try (cases hq : Nat.blt pc 98 <;> simp [hq, e27, e98] at h))
  rcases key with ⟨rfl, rfl⟩ | ⟨rfl, rfl⟩
  · exact ⟨Or.inl rfl, 57, 123, 61, "these are not two free edges", by decide +kernel, by decide +kernel, by decide +kernel, by decide +kernel, by decide +kernel, tq_123⟩
  · exact ⟨Or.inr rfl, 68, 128, 72, "there is no room for a link or its formula", by decide +kernel, by decide +kernel, by decide +kernel, by decide +kernel, by decide +kernel, tq_128⟩
def th_SN_cut (pc : Nat) : Option Int := (bif Nat.blt pc 72 then (bif Nat.beq pc 51 then (some 1) else none) else (bif Nat.beq pc 72 then (some 2) else none))
theorem hth_SN_cut : sn_TH prog_1_method_9_code "SwitchedNets" lw_tw th_SN_cut := by
  intro pc k h
  have key : (pc = 51 ∧ k = 1) ∨ (pc = 72 ∧ k = 2) := by
    unfold th_SN_cut at h
    by_cases h51 : pc = 51
    · subst h51
      have : k = 1 := (Option.some.inj (show some (1 : Int) = some k from h)).symm
      simp [this]
    by_cases h72 : pc = 72
    · subst h72
      have : k = 2 := (Option.some.inj (show some (2 : Int) = some k from h)).symm
      simp [this]
    exfalso
    have e51 : Nat.beq pc 51 = false := by cases hb : Nat.beq pc 51 with
      | false => rfl
      | true => exact absurd (Nat.eq_of_beq_eq_true hb) h51
    have e72 : Nat.beq pc 72 = false := by cases hb : Nat.beq pc 72 with
      | false => rfl
      | true => exact absurd (Nat.eq_of_beq_eq_true hb) h72
    simp [e51, e72] at h
    all_goals (try (cases hq : Nat.blt pc 72 <;> simp [hq, e51, e72] at h))
  rcases key with ⟨rfl, rfl⟩ | ⟨rfl, rfl⟩
  · exact ⟨Or.inl rfl, 57, 137, 61, "these are not two free edges of dual formulas", by decide +kernel, by decide +kernel, by decide +kernel, by decide +kernel, by decide +kernel, tq_137⟩
  · exact ⟨Or.inr rfl, 68, 139, 72, "there is no room for a cut", by decide +kernel, by decide +kernel, by decide +kernel, by decide +kernel, by decide +kernel, tq_139⟩
theorem sn_gH {own : String} {x : Nat} {y : MethodName} {bytes : ByteArray} {maxL : Nat} {hh : List (Nat × Nat × Nat × Nat)} (h1 : Cond.methodLink own x y ∈ sn_ws) (h2 : Cond.static y ∈ sn_ws) (h3 : Cond.initialized y.cls ∈ sn_ws) (h4 : Cond.codeWith y bytes maxL (some .int) hh ∈ sn_ws) : GoodIn sn_ws (([.methodLink own x y, .static y, .initialized y.cls] : List Cond) ++ (Cond.codeWith y bytes maxL (some .int) hh :: sn_ws)) := by
  have key : ∀ w ∈ (([.methodLink own x y, .static y, .initialized y.cls] : List Cond) ++ (Cond.codeWith y bytes maxL (some .int) hh :: sn_ws)), w ∈ sn_ws := by
    intro w hw
    rcases List.mem_append.mp hw with h | h
    · rcases List.mem_cons.mp h with rfl | h
      · exact h1
      · rcases List.mem_cons.mp h with rfl | h
        · exact h2
        · rcases List.mem_cons.mp h with rfl | h
          · exact h3
          · cases h
    · rcases List.mem_cons.mp h with rfl | h
      · exact h4
      · exact h
  exact fun w hw => ⟨key w hw, good_of_word (sn_wg (key w hw))⟩
theorem mz_LA : Cond.initialized "SwitchedNetsLaw" ∈ sn_ws := sn_i1 (List.mem_of_getElem? (i := 0) rfl) rfl
def y_LA_atom : MethodName := ⟨"SwitchedNetsLaw", "atom", "(LSwitchedNets;IZ[J)I"⟩
theorem mc_LA_atom : Cond.codeWith y_LA_atom method_3_code 5 (some .int) [(0, 10, 13, 13), (0, 10, 17, 15)] ∈ sn_ws := sn_i3 (List.mem_of_getElem? (i := 89) rfl) rfl
theorem mt_LA_atom : Cond.static y_LA_atom ∈ sn_ws := sn_i3 (List.mem_of_getElem? (i := 88) rfl) rfl
def pr_LA_atom (pc : Nat) : Option (Instr × Nat) := bif Nat.blt pc 5 then (bif Nat.blt pc 2 then (bif Nat.blt pc 1 then (bif Nat.beq pc 0 then (some (.aload_n 3, 0)) else none) else (bif Nat.beq pc 1 then (some (.iconst 0, 0)) else none)) else (bif Nat.blt pc 3 then (bif Nat.beq pc 2 then (some (.aload_n 0, 0)) else none) else (bif Nat.blt pc 4 then (bif Nat.beq pc 3 then (some (.iload_n 1, 0)) else none) else (bif Nat.beq pc 4 then (some (.iload_n 2, 0)) else none)))) else none
theorem pk_LA_atom : ∀ pc i t, pr_LA_atom pc = some (i, t) → sn_dk method_3_code 5 (some .int) pc i t = true := sn_prk 5 sn_out (by decide +kernel)
theorem ml_LA_7 : Cond.methodLink "SwitchedNetsLaw" 7 y_SN_atom ∈ sn_ws := sn_i3 (List.mem_of_getElem? (i := 92) rfl) rfl
theorem hc_LA_atom (v0 v1 : Int) : ∀ (dC : Nat) (spC : sn_PT), dC ≤ 90 → sn_TC y_SN_atom (Cond.code y_SN_atom prog_1_method_2_code 4 (some .int) :: sn_ws) lw_tw dC spC → sn_HC y_LA_atom (Cond.codeWith y_LA_atom method_3_code 5 (some .int) [(0, 10, 13, 13), (0, 10, 17, 15)] :: sn_ws) lw_tw (dC + 1) (sn_hp spC [.inr (.inr (0, 0)), .inl v0, .inl v1]) := by
  intro dC spC hd hC
  refine sn_HC_of (pr := pr_LA_atom) (pc := 5) (h1 := 13) (h2 := 17) (a1 := 15) (a2 := 19) (eP := 10) (iL := 4) (tg := 21) (off := 11) (n := 3) (x := 7) (t := ([.inl v0, .inl v1] : List sn_V)) ("SwitchedNets", T_SN, 8) (by decide +kernel) hC (Nat.lt_succ_self _) (by decide) rfl pk_LA_atom (Nat.le_of_ble_eq_true rfl) (by decide) ?_ (sn_gV ml_LA_7 mi_SN_atom ms_SN_atom mz_SN mc_SN_atom) rfl rfl ⟨nh_SN.1, nh_SN.2, pn_SN_atom⟩ rfl lw_tw_ml lw_tc (by decide) (by decide) (by decide) (by decide +kernel) (by decide +kernel) (by decide +kernel) (by decide +kernel) (by decide) (by decide +kernel) (by decide +kernel) (Or.inr ⟨by decide +kernel, rfl⟩) (by decide +kernel) (by decide +kernel) (Or.inr ⟨by decide +kernel, rfl⟩) (by decide +kernel) (by decide +kernel)
  intro σ G hG h
  exact hG 5 [5] _ _ _ _ h
def y_LA_pair : MethodName := ⟨"SwitchedNetsLaw", "pair", "(LSwitchedNets;IIZ[J)I"⟩
theorem mc_LA_pair : Cond.codeWith y_LA_pair method_4_code 6 (some .int) [(0, 12, 15, 13), (0, 12, 19, 15)] ∈ sn_ws := sn_i3 (List.mem_of_getElem? (i := 207) rfl) rfl
theorem mt_LA_pair : Cond.static y_LA_pair ∈ sn_ws := sn_i3 (List.mem_of_getElem? (i := 206) rfl) rfl
def pr_LA_pair (pc : Nat) : Option (Instr × Nat) := bif Nat.blt pc 7 then (bif Nat.blt pc 4 then (bif Nat.blt pc 2 then (bif Nat.beq pc 0 then (some (.aload 4, 0)) else none) else (bif Nat.blt pc 3 then (bif Nat.beq pc 2 then (some (.iconst 0, 0)) else none) else (bif Nat.beq pc 3 then (some (.aload_n 0, 0)) else none))) else (bif Nat.blt pc 5 then (bif Nat.beq pc 4 then (some (.iload_n 1, 0)) else none) else (bif Nat.blt pc 6 then (bif Nat.beq pc 5 then (some (.iload_n 2, 0)) else none) else (bif Nat.beq pc 6 then (some (.iload_n 3, 0)) else none)))) else none
theorem pk_LA_pair : ∀ pc i t, pr_LA_pair pc = some (i, t) → sn_dk method_4_code 6 (some .int) pc i t = true := sn_prk 7 sn_out (by decide +kernel)
theorem ml_LA_17 : Cond.methodLink "SwitchedNetsLaw" 17 y_SN_pair ∈ sn_ws := sn_i3 (List.mem_of_getElem? (i := 208) rfl) rfl
theorem hc_LA_pair (v0 v1 v2 : Int) : ∀ (dC : Nat) (spC : sn_PT), dC ≤ 90 → sn_TC y_SN_pair (Cond.code y_SN_pair prog_1_method_3_code 5 (some .int) :: sn_ws) lw_tw dC spC → sn_HC y_LA_pair (Cond.codeWith y_LA_pair method_4_code 6 (some .int) [(0, 12, 15, 13), (0, 12, 19, 15)] :: sn_ws) lw_tw (dC + 1) (sn_hp spC [.inr (.inr (0, 0)), .inl v0, .inl v1, .inl v2]) := by
  intro dC spC hd hC
  refine sn_HC_of (pr := pr_LA_pair) (pc := 7) (h1 := 15) (h2 := 19) (a1 := 17) (a2 := 21) (eP := 12) (iL := 5) (tg := 23) (off := 11) (n := 4) (x := 17) (t := ([.inl v0, .inl v1, .inl v2] : List sn_V)) ("SwitchedNets", T_SN, 8) (by decide +kernel) hC (Nat.lt_succ_self _) (by decide) rfl pk_LA_pair (Nat.le_of_ble_eq_true rfl) (by decide) ?_ (sn_gV ml_LA_17 mi_SN_pair ms_SN_pair mz_SN mc_SN_pair) rfl rfl ⟨nh_SN.1, nh_SN.2, pn_SN_pair⟩ rfl lw_tw_ml lw_tc (by decide) (by decide) (by decide) (by decide +kernel) (by decide +kernel) (by decide +kernel) (by decide +kernel) (by decide) (by decide +kernel) (by decide +kernel) (Or.inr ⟨by decide +kernel, rfl⟩) (by decide +kernel) (by decide +kernel) (Or.inr ⟨by decide +kernel, rfl⟩) (by decide +kernel) (by decide +kernel)
  intro σ G hG h
  exact hG 6 [7] _ _ _ _ h
def y_LA_dual : MethodName := ⟨"SwitchedNetsLaw", "dual", "(LSwitchedNets;I[J)I"⟩
theorem mc_LA_dual : Cond.codeWith y_LA_dual method_5_code 4 (some .int) [(0, 9, 12, 13), (0, 9, 15, 15)] ∈ sn_ws := sn_i3 (List.mem_of_getElem? (i := 215) rfl) rfl
theorem mt_LA_dual : Cond.static y_LA_dual ∈ sn_ws := sn_i3 (List.mem_of_getElem? (i := 214) rfl) rfl
def pr_LA_dual (pc : Nat) : Option (Instr × Nat) := bif Nat.blt pc 4 then (bif Nat.blt pc 2 then (bif Nat.blt pc 1 then (bif Nat.beq pc 0 then (some (.aload_n 2, 0)) else none) else (bif Nat.beq pc 1 then (some (.iconst 0, 0)) else none)) else (bif Nat.blt pc 3 then (bif Nat.beq pc 2 then (some (.aload_n 0, 0)) else none) else (bif Nat.beq pc 3 then (some (.iload_n 1, 0)) else none))) else none
theorem pk_LA_dual : ∀ pc i t, pr_LA_dual pc = some (i, t) → sn_dk method_5_code 4 (some .int) pc i t = true := sn_prk 4 sn_out (by decide +kernel)
theorem ml_LA_21 : Cond.methodLink "SwitchedNetsLaw" 21 y_SN_dual ∈ sn_ws := sn_i3 (List.mem_of_getElem? (i := 216) rfl) rfl
theorem hc_LA_dual (v0 : Int) : ∀ (dC : Nat) (spC : sn_PT), dC ≤ 90 → sn_TC y_SN_dual (Cond.code y_SN_dual prog_1_method_4_code 2 (some .int) :: sn_ws) lw_tw dC spC → sn_HC y_LA_dual (Cond.codeWith y_LA_dual method_5_code 4 (some .int) [(0, 9, 12, 13), (0, 9, 15, 15)] :: sn_ws) lw_tw (dC + 1) (sn_hp spC [.inr (.inr (0, 0)), .inl v0]) := by
  intro dC spC hd hC
  refine sn_HC_of (pr := pr_LA_dual) (pc := 4) (h1 := 12) (h2 := 15) (a1 := 13) (a2 := 16) (eP := 9) (iL := 3) (tg := 18) (off := 9) (n := 2) (x := 21) (t := ([.inl v0] : List sn_V)) ("SwitchedNets", T_SN, 8) (by decide +kernel) hC (Nat.lt_succ_self _) (by decide) rfl pk_LA_dual (Nat.le_of_ble_eq_true rfl) (by decide) ?_ (sn_gV ml_LA_21 mi_SN_dual ms_SN_dual mz_SN mc_SN_dual) rfl rfl ⟨nh_SN.1, nh_SN.2, pn_SN_dual⟩ rfl lw_tw_ml lw_tc (by decide) (by decide) (by decide) (by decide +kernel) (by decide +kernel) (by decide +kernel) (by decide +kernel) (by decide) (by decide +kernel) (by decide +kernel) (Or.inl ⟨3, by decide +kernel, rfl, rfl⟩) (by decide +kernel) (by decide +kernel) (Or.inl ⟨3, by decide +kernel, rfl, rfl⟩) (by decide +kernel) (by decide +kernel)
  intro σ G hG h
  exact hG 4 [4] _ _ _ _ h
def y_LA_axiom : MethodName := ⟨"SwitchedNetsLaw", "axiom", "(LSwitchedNets;I[J)I"⟩
theorem mc_LA_axiom : Cond.codeWith y_LA_axiom method_6_code 4 (some .int) [(0, 9, 12, 13), (0, 9, 15, 15)] ∈ sn_ws := sn_i4 (List.mem_of_getElem? (i := 4) rfl) rfl
theorem mt_LA_axiom : Cond.static y_LA_axiom ∈ sn_ws := sn_i4 (List.mem_of_getElem? (i := 3) rfl) rfl
def pr_LA_axiom (pc : Nat) : Option (Instr × Nat) := bif Nat.blt pc 4 then (bif Nat.blt pc 2 then (bif Nat.blt pc 1 then (bif Nat.beq pc 0 then (some (.aload_n 2, 0)) else none) else (bif Nat.beq pc 1 then (some (.iconst 0, 0)) else none)) else (bif Nat.blt pc 3 then (bif Nat.beq pc 2 then (some (.aload_n 0, 0)) else none) else (bif Nat.beq pc 3 then (some (.iload_n 1, 0)) else none))) else none
theorem pk_LA_axiom : ∀ pc i t, pr_LA_axiom pc = some (i, t) → sn_dk method_6_code 4 (some .int) pc i t = true := sn_prk 4 sn_out (by decide +kernel)
theorem ml_LA_25 : Cond.methodLink "SwitchedNetsLaw" 25 y_SN_axiom ∈ sn_ws := sn_i4 (List.mem_of_getElem? (i := 5) rfl) rfl
theorem hc_LA_axiom (v0 : Int) : ∀ (dC : Nat) (spC : sn_PT), dC ≤ 90 → sn_TC y_SN_axiom (Cond.code y_SN_axiom prog_1_method_7_code 2 (some .int) :: sn_ws) lw_tw dC spC → sn_HC y_LA_axiom (Cond.codeWith y_LA_axiom method_6_code 4 (some .int) [(0, 9, 12, 13), (0, 9, 15, 15)] :: sn_ws) lw_tw (dC + 1) (sn_hp spC [.inr (.inr (0, 0)), .inl v0]) := by
  intro dC spC hd hC
  refine sn_HC_of (pr := pr_LA_axiom) (pc := 4) (h1 := 12) (h2 := 15) (a1 := 13) (a2 := 16) (eP := 9) (iL := 3) (tg := 18) (off := 9) (n := 2) (x := 25) (t := ([.inl v0] : List sn_V)) ("SwitchedNets", T_SN, 8) (by decide +kernel) hC (Nat.lt_succ_self _) (by decide) rfl pk_LA_axiom (Nat.le_of_ble_eq_true rfl) (by decide) ?_ (sn_gV ml_LA_25 mi_SN_axiom ms_SN_axiom mz_SN mc_SN_axiom) rfl rfl ⟨nh_SN.1, nh_SN.2, pn_SN_axiom⟩ rfl lw_tw_ml lw_tc (by decide) (by decide) (by decide) (by decide +kernel) (by decide +kernel) (by decide +kernel) (by decide +kernel) (by decide) (by decide +kernel) (by decide +kernel) (Or.inl ⟨3, by decide +kernel, rfl, rfl⟩) (by decide +kernel) (by decide +kernel) (Or.inl ⟨3, by decide +kernel, rfl, rfl⟩) (by decide +kernel) (by decide +kernel)
  intro σ G hG h
  exact hG 4 [4] _ _ _ _ h
def y_LA_link : MethodName := ⟨"SwitchedNetsLaw", "link", "(LSwitchedNets;IIZ[J)I"⟩
theorem mc_LA_link : Cond.codeWith y_LA_link method_7_code 6 (some .int) [(0, 12, 15, 13), (0, 12, 19, 15)] ∈ sn_ws := sn_i4 (List.mem_of_getElem? (i := 17) rfl) rfl
theorem mt_LA_link : Cond.static y_LA_link ∈ sn_ws := sn_i4 (List.mem_of_getElem? (i := 16) rfl) rfl
def pr_LA_link (pc : Nat) : Option (Instr × Nat) := bif Nat.blt pc 7 then (bif Nat.blt pc 4 then (bif Nat.blt pc 2 then (bif Nat.beq pc 0 then (some (.aload 4, 0)) else none) else (bif Nat.blt pc 3 then (bif Nat.beq pc 2 then (some (.iconst 0, 0)) else none) else (bif Nat.beq pc 3 then (some (.aload_n 0, 0)) else none))) else (bif Nat.blt pc 5 then (bif Nat.beq pc 4 then (some (.iload_n 1, 0)) else none) else (bif Nat.blt pc 6 then (bif Nat.beq pc 5 then (some (.iload_n 2, 0)) else none) else (bif Nat.beq pc 6 then (some (.iload_n 3, 0)) else none)))) else none
theorem pk_LA_link : ∀ pc i t, pr_LA_link pc = some (i, t) → sn_dk method_7_code 6 (some .int) pc i t = true := sn_prk 7 sn_out (by decide +kernel)
theorem ml_LA_28 : Cond.methodLink "SwitchedNetsLaw" 28 y_SN_link ∈ sn_ws := sn_i4 (List.mem_of_getElem? (i := 18) rfl) rfl
theorem hc_LA_link (v0 v1 v2 : Int) : ∀ (dC : Nat) (spC : sn_PT), dC ≤ 90 → sn_TC y_SN_link (Cond.code y_SN_link prog_1_method_8_code 7 (some .int) :: sn_ws) lw_tw dC spC → sn_HC y_LA_link (Cond.codeWith y_LA_link method_7_code 6 (some .int) [(0, 12, 15, 13), (0, 12, 19, 15)] :: sn_ws) lw_tw (dC + 1) (sn_hp spC [.inr (.inr (0, 0)), .inl v0, .inl v1, .inl v2]) := by
  intro dC spC hd hC
  refine sn_HC_of (pr := pr_LA_link) (pc := 7) (h1 := 15) (h2 := 19) (a1 := 17) (a2 := 21) (eP := 12) (iL := 5) (tg := 23) (off := 11) (n := 4) (x := 28) (t := ([.inl v0, .inl v1, .inl v2] : List sn_V)) ("SwitchedNets", T_SN, 8) (by decide +kernel) hC (Nat.lt_succ_self _) (by decide) rfl pk_LA_link (Nat.le_of_ble_eq_true rfl) (by decide) ?_ (sn_gV ml_LA_28 mi_SN_link ms_SN_link mz_SN mc_SN_link) rfl rfl ⟨nh_SN.1, nh_SN.2, pn_SN_link⟩ rfl lw_tw_ml lw_tc (by decide) (by decide) (by decide) (by decide +kernel) (by decide +kernel) (by decide +kernel) (by decide +kernel) (by decide) (by decide +kernel) (by decide +kernel) (Or.inr ⟨by decide +kernel, rfl⟩) (by decide +kernel) (by decide +kernel) (Or.inr ⟨by decide +kernel, rfl⟩) (by decide +kernel) (by decide +kernel)
  intro σ G hG h
  exact hG 6 [7] _ _ _ _ h
def y_LA_cut : MethodName := ⟨"SwitchedNetsLaw", "cut", "(LSwitchedNets;II[J)I"⟩
theorem mc_LA_cut : Cond.codeWith y_LA_cut method_8_code 5 (some .int) [(0, 10, 13, 13), (0, 10, 17, 15)] ∈ sn_ws := sn_i4 (List.mem_of_getElem? (i := 27) rfl) rfl
theorem mt_LA_cut : Cond.static y_LA_cut ∈ sn_ws := sn_i4 (List.mem_of_getElem? (i := 26) rfl) rfl
def pr_LA_cut (pc : Nat) : Option (Instr × Nat) := bif Nat.blt pc 5 then (bif Nat.blt pc 2 then (bif Nat.blt pc 1 then (bif Nat.beq pc 0 then (some (.aload_n 3, 0)) else none) else (bif Nat.beq pc 1 then (some (.iconst 0, 0)) else none)) else (bif Nat.blt pc 3 then (bif Nat.beq pc 2 then (some (.aload_n 0, 0)) else none) else (bif Nat.blt pc 4 then (bif Nat.beq pc 3 then (some (.iload_n 1, 0)) else none) else (bif Nat.beq pc 4 then (some (.iload_n 2, 0)) else none)))) else none
theorem pk_LA_cut : ∀ pc i t, pr_LA_cut pc = some (i, t) → sn_dk method_8_code 5 (some .int) pc i t = true := sn_prk 5 sn_out (by decide +kernel)
theorem ml_LA_31 : Cond.methodLink "SwitchedNetsLaw" 31 y_SN_cut ∈ sn_ws := sn_i4 (List.mem_of_getElem? (i := 28) rfl) rfl
theorem hc_LA_cut (v0 v1 : Int) : ∀ (dC : Nat) (spC : sn_PT), dC ≤ 90 → sn_TC y_SN_cut (Cond.code y_SN_cut prog_1_method_9_code 3 (some .int) :: sn_ws) lw_tw dC spC → sn_HC y_LA_cut (Cond.codeWith y_LA_cut method_8_code 5 (some .int) [(0, 10, 13, 13), (0, 10, 17, 15)] :: sn_ws) lw_tw (dC + 1) (sn_hp spC [.inr (.inr (0, 0)), .inl v0, .inl v1]) := by
  intro dC spC hd hC
  refine sn_HC_of (pr := pr_LA_cut) (pc := 5) (h1 := 13) (h2 := 17) (a1 := 15) (a2 := 19) (eP := 10) (iL := 4) (tg := 21) (off := 11) (n := 3) (x := 31) (t := ([.inl v0, .inl v1] : List sn_V)) ("SwitchedNets", T_SN, 8) (by decide +kernel) hC (Nat.lt_succ_self _) (by decide) rfl pk_LA_cut (Nat.le_of_ble_eq_true rfl) (by decide) ?_ (sn_gV ml_LA_31 mi_SN_cut ms_SN_cut mz_SN mc_SN_cut) rfl rfl ⟨nh_SN.1, nh_SN.2, pn_SN_cut⟩ rfl lw_tw_ml lw_tc (by decide) (by decide) (by decide) (by decide +kernel) (by decide +kernel) (by decide +kernel) (by decide +kernel) (by decide) (by decide +kernel) (by decide +kernel) (Or.inr ⟨by decide +kernel, rfl⟩) (by decide +kernel) (by decide +kernel) (Or.inr ⟨by decide +kernel, rfl⟩) (by decide +kernel) (by decide +kernel)
  intro σ G hG h
  exact hG 5 [5] _ _ _ _ h
