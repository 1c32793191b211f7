/-! Printed by tools/gen.py: names of methods, words, links of fields. -/
theorem sn_i0 {w : Cond} (h : w ∈ k2_sels lw_privs) (hg : goodWord w = true) : w ∈ sn_ws := List.mem_filter.mpr ⟨List.mem_append_left _ h, hg⟩
theorem sn_i1 {w : Cond} (h : w ∈ tables_1_1) (hg : goodWord w = true) : w ∈ sn_ws := List.mem_filter.mpr ⟨List.mem_append_right _ (List.mem_append_left _ h), hg⟩
theorem sn_i2 {w : Cond} (h : w ∈ tables_1_2) (hg : goodWord w = true) : w ∈ sn_ws := List.mem_filter.mpr ⟨List.mem_append_right _ (List.mem_append_right _ (List.mem_append_left _ h)), hg⟩
theorem sn_i3 {w : Cond} (h : w ∈ tables_1_3) (hg : goodWord w = true) : w ∈ sn_ws := List.mem_filter.mpr ⟨List.mem_append_right _ (List.mem_append_right _ (List.mem_append_right _ (List.mem_append_left _ h))), hg⟩
theorem sn_i4 {w : Cond} (h : w ∈ tables_1_4) (hg : goodWord w = true) : w ∈ sn_ws := List.mem_filter.mpr ⟨List.mem_append_right _ (List.mem_append_right _ (List.mem_append_right _ (List.mem_append_right _ (List.mem_append_left _ h)))), hg⟩
theorem sn_i5 {w : Cond} (h : w ∈ tables_1_5) (hg : goodWord w = true) : w ∈ sn_ws := List.mem_filter.mpr ⟨List.mem_append_right _ (List.mem_append_right _ (List.mem_append_right _ (List.mem_append_right _ (List.mem_append_right _ h)))), hg⟩
theorem sn_gV {own : String} {x : Nat} {y : MethodName} {code : ByteArray} {nL : Nat} {ret : Option FieldType} (h1 : Cond.methodLink own x y ∈ sn_ws) (h2 : Cond.instanceMethod y ∈ sn_ws) (h3 : Cond.selects y.cls y y ∈ sn_ws) (h4 : Cond.initialized y.cls ∈ sn_ws) (h5 : Cond.code y code nL ret ∈ sn_ws) : GoodIn sn_ws (wsV own x y.cls y (Cond.code y code nL ret :: sn_ws)) := by
  intro w hw
  have h : w ∈ sn_ws := by
    unfold wsV at hw
    rcases List.mem_append.mp hw with h | h
    · simp only [List.mem_cons, List.not_mem_nil, or_false] at h
      rcases h with rfl | rfl | rfl | rfl
      · exact h1
      · exact h2
      · exact h3
      · exact h4
    · rcases List.mem_cons.mp h with rfl | h
      · exact h5
      · exact h
  exact ⟨h, good_of_word (sn_wg h)⟩
theorem sn_gS {own : String} {x : Nat} {y : MethodName} {code : ByteArray} {nL : Nat} {ret : Option FieldType} (h1 : Cond.methodLink own x y ∈ sn_ws) (h2 : Cond.static y ∈ sn_ws) (h4 : Cond.initialized y.cls ∈ sn_ws) (h5 : Cond.code y code nL ret ∈ sn_ws) : GoodIn sn_ws (va_wsS own x y (Cond.code y code nL ret :: sn_ws)) := by
  intro w hw
  have h : w ∈ sn_ws := by
    unfold va_wsS at hw
    rcases List.mem_append.mp hw with h | h
    · simp only [List.mem_cons, List.not_mem_nil, or_false] at h
      rcases h with rfl | rfl | rfl
      · exact h1
      · exact h2
      · exact h4
    · rcases List.mem_cons.mp h with rfl | h
      · exact h5
      · exact h
  exact ⟨h, good_of_word (sn_wg h)⟩
theorem sn_prk {pr : Nat → Option (Instr × Nat)} {cc : ByteArray} {nL : Nat} {ret : Option FieldType} (N : Nat) (h0 : ∀ pc, N ≤ pc → pr pc = none) (h : (List.range N).all (fun pc => match pr pc with
  | some q => sn_dk cc nL ret pc q.1 q.2
  | none => true) = true) : ∀ pc i t, pr pc = some (i, t) → sn_dk cc nL ret pc i t = true := by
  intro pc i t hp
  by_cases hn : pc < N
  · have h1 := List.all_eq_true.mp h pc (List.mem_range.mpr hn)
    rw [hp] at h1
    exact h1
  · rw [h0 pc (by omega)] at hp
    cases hp
theorem sn_out {α : Type} {N : Nat} {f : Nat → Option α} : ∀ pc, N ≤ pc → (bif Nat.blt pc N then f pc else none) = none := by
  intro pc h
  cases hb : Nat.blt pc N with
  | false => rfl
  | true => have := Nat.le_of_ble_eq_true hb; omega
def sn_fQ (own : String) (q : Nat × Nat × Nat) : Prop := ∃ r, sn_cl[q.2.1]? = some r ∧ q.2.2 < r.2.2 ∧ (∀ w ∈ u_ws r.1 r.2.1 r.2.2, w ∈ sn_ws) ∧ (r.2.1 q.2.2).1 = r.1 ∧ Cond.fieldLink own q.1 r.1 (r.2.1 q.2.2).2.1 (r.2.1 q.2.2).2.2.1 ∈ sn_ws
theorem sn_fq {own C : String} {T : u_T} {N x ci j : Nat} (h1 : sn_cl[ci]? = some (C, T, N)) (h2 : j < N) (h3 : ∀ j, j < N → u_lay C T j ∈ sn_ws) (h4 : (T j).1 = C) (h5 : Cond.fieldLink own x C (T j).2.1 (T j).2.2.1 ∈ sn_ws) : sn_fQ own (x, ci, j) :=
  ⟨(C, T, N), h1, h2, fun w hw => by
    obtain ⟨k, hk, rfl⟩ := List.mem_map.mp hw
    exact h3 k (List.mem_range.mp hk), h4, h5⟩
theorem sn_FI_of {own : String} {l : List (Nat × Nat × Nat)} (h : ∀ q ∈ l, sn_fQ own q) : sn_FI own sn_ws (sn_lk l) := fun x ci j hx => h (x, ci, j) (sn_lk_e l hx)
theorem la_FO : ∀ j, j < 8 → u_lay "SwitchedNets$Formulas" T_FO j ∈ sn_ws := fun j hj => match j, hj with
  | 0, _ => sn_i1 (List.mem_of_getElem? (i := 49) rfl) rfl
  | 1, _ => sn_i1 (List.mem_of_getElem? (i := 51) rfl) rfl
  | 2, _ => sn_i1 (List.mem_of_getElem? (i := 53) rfl) rfl
  | 3, _ => sn_i1 (List.mem_of_getElem? (i := 55) rfl) rfl
  | 4, _ => sn_i1 (List.mem_of_getElem? (i := 57) rfl) rfl
  | 5, _ => sn_i1 (List.mem_of_getElem? (i := 59) rfl) rfl
  | 6, _ => sn_i1 (List.mem_of_getElem? (i := 61) rfl) rfl
  | 7, _ => sn_i1 (List.mem_of_getElem? (i := 63) rfl) rfl
  | n + 8, h => absurd h (by omega)
theorem la_LK : ∀ j, j < 4 → u_lay "SwitchedNets$Likeness" T_LK j ∈ sn_ws := fun j hj => match j, hj with
  | 0, _ => sn_i1 (List.mem_of_getElem? (i := 217) rfl) rfl
  | 1, _ => sn_i1 (List.mem_of_getElem? (i := 219) rfl) rfl
  | 2, _ => sn_i1 (List.mem_of_getElem? (i := 221) rfl) rfl
  | 3, _ => sn_i1 (List.mem_of_getElem? (i := 223) rfl) rfl
  | n + 4, h => absurd h (by omega)
theorem la_LS : ∀ j, j < 13 → u_lay "SwitchedNets$LinkingSearch" T_LS j ∈ sn_ws := fun j hj => match j, hj with
  | 0, _ => sn_i2 (List.mem_of_getElem? (i := 9) rfl) rfl
  | 1, _ => sn_i2 (List.mem_of_getElem? (i := 11) rfl) rfl
  | 2, _ => sn_i2 (List.mem_of_getElem? (i := 13) rfl) rfl
  | 3, _ => sn_i2 (List.mem_of_getElem? (i := 15) rfl) rfl
  | 4, _ => sn_i2 (List.mem_of_getElem? (i := 17) rfl) rfl
  | 5, _ => sn_i2 (List.mem_of_getElem? (i := 19) rfl) rfl
  | 6, _ => sn_i2 (List.mem_of_getElem? (i := 21) rfl) rfl
  | 7, _ => sn_i2 (List.mem_of_getElem? (i := 23) rfl) rfl
  | 8, _ => sn_i2 (List.mem_of_getElem? (i := 25) rfl) rfl
  | 9, _ => sn_i2 (List.mem_of_getElem? (i := 27) rfl) rfl
  | 10, _ => sn_i2 (List.mem_of_getElem? (i := 29) rfl) rfl
  | 11, _ => sn_i2 (List.mem_of_getElem? (i := 31) rfl) rfl
  | 12, _ => sn_i2 (List.mem_of_getElem? (i := 33) rfl) rfl
  | n + 13, h => absurd h (by omega)
theorem la_PR : ∀ j, j < 5 → u_lay "SwitchedNets$Proof" T_PR j ∈ sn_ws := fun j hj => match j, hj with
  | 0, _ => sn_i1 (List.mem_of_getElem? (i := 195) rfl) rfl
  | 1, _ => sn_i1 (List.mem_of_getElem? (i := 197) rfl) rfl
  | 2, _ => sn_i1 (List.mem_of_getElem? (i := 199) rfl) rfl
  | 3, _ => sn_i1 (List.mem_of_getElem? (i := 201) rfl) rfl
  | 4, _ => sn_i1 (List.mem_of_getElem? (i := 203) rfl) rfl
  | n + 5, h => absurd h (by omega)
theorem la_ST : ∀ j, j < 15 → u_lay "SwitchedNets$Structure" T_ST j ∈ sn_ws := fun j hj => match j, hj with
  | 0, _ => sn_i1 (List.mem_of_getElem? (i := 127) rfl) rfl
  | 1, _ => sn_i1 (List.mem_of_getElem? (i := 129) rfl) rfl
  | 2, _ => sn_i1 (List.mem_of_getElem? (i := 131) rfl) rfl
  | 3, _ => sn_i1 (List.mem_of_getElem? (i := 133) rfl) rfl
  | 4, _ => sn_i1 (List.mem_of_getElem? (i := 135) rfl) rfl
  | 5, _ => sn_i1 (List.mem_of_getElem? (i := 137) rfl) rfl
  | 6, _ => sn_i1 (List.mem_of_getElem? (i := 139) rfl) rfl
  | 7, _ => sn_i1 (List.mem_of_getElem? (i := 141) rfl) rfl
  | 8, _ => sn_i1 (List.mem_of_getElem? (i := 143) rfl) rfl
  | 9, _ => sn_i1 (List.mem_of_getElem? (i := 145) rfl) rfl
  | 10, _ => sn_i1 (List.mem_of_getElem? (i := 147) rfl) rfl
  | 11, _ => sn_i1 (List.mem_of_getElem? (i := 149) rfl) rfl
  | 12, _ => sn_i1 (List.mem_of_getElem? (i := 151) rfl) rfl
  | 13, _ => sn_i1 (List.mem_of_getElem? (i := 153) rfl) rfl
  | 14, _ => sn_i1 (List.mem_of_getElem? (i := 155) rfl) rfl
  | n + 15, h => absurd h (by omega)
theorem la_SW : ∀ j, j < 5 → u_lay "SwitchedNets$Switchings" T_SW j ∈ sn_ws := fun j hj => match j, hj with
  | 0, _ => sn_i1 (List.mem_of_getElem? (i := 172) rfl) rfl
  | 1, _ => sn_i1 (List.mem_of_getElem? (i := 174) rfl) rfl
  | 2, _ => sn_i1 (List.mem_of_getElem? (i := 176) rfl) rfl
  | 3, _ => sn_i1 (List.mem_of_getElem? (i := 178) rfl) rfl
  | 4, _ => sn_i1 (List.mem_of_getElem? (i := 180) rfl) rfl
  | n + 5, h => absurd h (by omega)
theorem la_SN : ∀ j, j < 8 → u_lay "SwitchedNets" T_SN j ∈ sn_ws := fun j hj => match j, hj with
  | 0, _ => sn_i2 (List.mem_of_getElem? (i := 44) rfl) rfl
  | 1, _ => sn_i2 (List.mem_of_getElem? (i := 46) rfl) rfl
  | 2, _ => sn_i2 (List.mem_of_getElem? (i := 48) rfl) rfl
  | 3, _ => sn_i2 (List.mem_of_getElem? (i := 50) rfl) rfl
  | 4, _ => sn_i2 (List.mem_of_getElem? (i := 52) rfl) rfl
  | 5, _ => sn_i2 (List.mem_of_getElem? (i := 54) rfl) rfl
  | 6, _ => sn_i2 (List.mem_of_getElem? (i := 56) rfl) rfl
  | 7, _ => sn_i2 (List.mem_of_getElem? (i := 58) rfl) rfl
  | n + 8, h => absurd h (by omega)
theorem la_MD : ∀ j, j < 29 → u_lay "SwitchedNetsModel" T_MD j ∈ sn_ws := fun j hj => match j, hj with
  | 0, _ => sn_i4 (List.mem_of_getElem? (i := 70) rfl) rfl
  | 1, _ => sn_i4 (List.mem_of_getElem? (i := 72) rfl) rfl
  | 2, _ => sn_i4 (List.mem_of_getElem? (i := 74) rfl) rfl
  | 3, _ => sn_i4 (List.mem_of_getElem? (i := 76) rfl) rfl
  | 4, _ => sn_i4 (List.mem_of_getElem? (i := 78) rfl) rfl
  | 5, _ => sn_i4 (List.mem_of_getElem? (i := 80) rfl) rfl
  | 6, _ => sn_i4 (List.mem_of_getElem? (i := 82) rfl) rfl
  | 7, _ => sn_i4 (List.mem_of_getElem? (i := 84) rfl) rfl
  | 8, _ => sn_i4 (List.mem_of_getElem? (i := 86) rfl) rfl
  | 9, _ => sn_i4 (List.mem_of_getElem? (i := 88) rfl) rfl
  | 10, _ => sn_i4 (List.mem_of_getElem? (i := 90) rfl) rfl
  | 11, _ => sn_i4 (List.mem_of_getElem? (i := 92) rfl) rfl
  | 12, _ => sn_i4 (List.mem_of_getElem? (i := 94) rfl) rfl
  | 13, _ => sn_i4 (List.mem_of_getElem? (i := 96) rfl) rfl
  | 14, _ => sn_i4 (List.mem_of_getElem? (i := 98) rfl) rfl
  | 15, _ => sn_i4 (List.mem_of_getElem? (i := 100) rfl) rfl
  | 16, _ => sn_i4 (List.mem_of_getElem? (i := 102) rfl) rfl
  | 17, _ => sn_i4 (List.mem_of_getElem? (i := 104) rfl) rfl
  | 18, _ => sn_i4 (List.mem_of_getElem? (i := 106) rfl) rfl
  | 19, _ => sn_i4 (List.mem_of_getElem? (i := 108) rfl) rfl
  | 20, _ => sn_i4 (List.mem_of_getElem? (i := 110) rfl) rfl
  | 21, _ => sn_i4 (List.mem_of_getElem? (i := 112) rfl) rfl
  | 22, _ => sn_i4 (List.mem_of_getElem? (i := 114) rfl) rfl
  | 23, _ => sn_i4 (List.mem_of_getElem? (i := 116) rfl) rfl
  | 24, _ => sn_i4 (List.mem_of_getElem? (i := 118) rfl) rfl
  | 25, _ => sn_i4 (List.mem_of_getElem? (i := 120) rfl) rfl
  | 26, _ => sn_i4 (List.mem_of_getElem? (i := 122) rfl) rfl
  | 27, _ => sn_i4 (List.mem_of_getElem? (i := 124) rfl) rfl
  | 28, _ => sn_i4 (List.mem_of_getElem? (i := 126) rfl) rfl
  | n + 29, h => absurd h (by omega)
def y_FO_has : MethodName := ⟨"SwitchedNets$Formulas", "has", "(I)Z"⟩
def y_FO_canHold : MethodName := ⟨"SwitchedNets$Formulas", "canHold", "(III)Z"⟩
def y_FO_obtain : MethodName := ⟨"SwitchedNets$Formulas", "obtain", "(III)I"⟩
def y_FO_canHoldDual : MethodName := ⟨"SwitchedNets$Formulas", "canHoldDual", "(I)Z"⟩
def y_FO_obtainDual : MethodName := ⟨"SwitchedNets$Formulas", "obtainDual", "(I)I"⟩
def y_FO_find : MethodName := ⟨"SwitchedNets$Formulas", "find", "(III)I"⟩
def y_FO_add : MethodName := ⟨"SwitchedNets$Formulas", "add", "(III)I"⟩
def y_FO_findDual : MethodName := ⟨"SwitchedNets$Formulas", "findDual", "(I)I"⟩
def y_FO_addDual : MethodName := ⟨"SwitchedNets$Formulas", "addDual", "(I)V"⟩
def y_FO_partWithoutDual : MethodName := ⟨"SwitchedNets$Formulas", "partWithoutDual", "(I)I"⟩
def y_FO_missingDuals : MethodName := ⟨"SwitchedNets$Formulas", "missingDuals", "(I)I"⟩
def y_FO_otherKind : MethodName := ⟨"SwitchedNets$Formulas", "otherKind", "(I)I"⟩
theorem mz_FO : Cond.initialized "SwitchedNets$Formulas" ∈ sn_ws := sn_i1 (List.mem_of_getElem? (i := 2) rfl) rfl
theorem mc_FO_has : Cond.code y_FO_has prog_2_method_2_code 2 (some .boolean) ∈ sn_ws := sn_i2 (List.mem_of_getElem? (i := 68) rfl) rfl
theorem mi_FO_has : Cond.instanceMethod y_FO_has ∈ sn_ws := sn_i2 (List.mem_of_getElem? (i := 66) rfl) rfl
theorem ms_FO_has : Cond.selects "SwitchedNets$Formulas" y_FO_has y_FO_has ∈ sn_ws := sn_i2 (List.mem_of_getElem? (i := 67) rfl) rfl
theorem mc_FO_canHold : Cond.code y_FO_canHold prog_2_method_3_code 4 (some .boolean) ∈ sn_ws := sn_i3 (List.mem_of_getElem? (i := 166) rfl) rfl
theorem mi_FO_canHold : Cond.instanceMethod y_FO_canHold ∈ sn_ws := sn_i3 (List.mem_of_getElem? (i := 164) rfl) rfl
theorem ms_FO_canHold : Cond.selects "SwitchedNets$Formulas" y_FO_canHold y_FO_canHold ∈ sn_ws := sn_i3 (List.mem_of_getElem? (i := 165) rfl) rfl
theorem mc_FO_obtain : Cond.code y_FO_obtain prog_2_method_4_code 5 (some .int) ∈ sn_ws := sn_i3 (List.mem_of_getElem? (i := 190) rfl) rfl
theorem mi_FO_obtain : Cond.instanceMethod y_FO_obtain ∈ sn_ws := sn_i3 (List.mem_of_getElem? (i := 188) rfl) rfl
theorem ms_FO_obtain : Cond.selects "SwitchedNets$Formulas" y_FO_obtain y_FO_obtain ∈ sn_ws := sn_i3 (List.mem_of_getElem? (i := 189) rfl) rfl
theorem mc_FO_canHoldDual : Cond.code y_FO_canHoldDual prog_2_method_5_code 2 (some .boolean) ∈ sn_ws := sn_i3 (List.mem_of_getElem? (i := 224) rfl) rfl
theorem mi_FO_canHoldDual : Cond.instanceMethod y_FO_canHoldDual ∈ sn_ws := sn_i3 (List.mem_of_getElem? (i := 222) rfl) rfl
theorem ms_FO_canHoldDual : Cond.selects "SwitchedNets$Formulas" y_FO_canHoldDual y_FO_canHoldDual ∈ sn_ws := sn_i3 (List.mem_of_getElem? (i := 223) rfl) rfl
theorem mc_FO_obtainDual : Cond.code y_FO_obtainDual prog_2_method_6_code 6 (some .int) ∈ sn_ws := sn_i3 (List.mem_of_getElem? (i := 233) rfl) rfl
theorem mi_FO_obtainDual : Cond.instanceMethod y_FO_obtainDual ∈ sn_ws := sn_i3 (List.mem_of_getElem? (i := 231) rfl) rfl
theorem ms_FO_obtainDual : Cond.selects "SwitchedNets$Formulas" y_FO_obtainDual y_FO_obtainDual ∈ sn_ws := sn_i3 (List.mem_of_getElem? (i := 232) rfl) rfl
theorem mc_FO_find : Cond.code y_FO_find prog_2_method_7_code 5 (some .int) ∈ sn_ws := sn_i3 (List.mem_of_getElem? (i := 170) rfl) rfl
theorem mi_FO_find : Cond.instanceMethod y_FO_find ∈ sn_ws := sn_i3 (List.mem_of_getElem? (i := 169) rfl) rfl
theorem ms_FO_find : Cond.selects "SwitchedNets$Formulas" y_FO_find y_FO_find ∈ sn_ws := sn_i0 (List.mem_of_getElem? (i := 22) rfl) rfl
theorem mc_FO_add : Cond.code y_FO_add prog_2_method_8_code 5 (some .int) ∈ sn_ws := sn_i3 (List.mem_of_getElem? (i := 194) rfl) rfl
theorem mi_FO_add : Cond.instanceMethod y_FO_add ∈ sn_ws := sn_i3 (List.mem_of_getElem? (i := 193) rfl) rfl
theorem ms_FO_add : Cond.selects "SwitchedNets$Formulas" y_FO_add y_FO_add ∈ sn_ws := sn_i0 (List.mem_of_getElem? (i := 23) rfl) rfl
theorem mc_FO_findDual : Cond.code y_FO_findDual prog_2_method_9_code 4 (some .int) ∈ sn_ws := sn_i3 (List.mem_of_getElem? (i := 201) rfl) rfl
theorem mi_FO_findDual : Cond.instanceMethod y_FO_findDual ∈ sn_ws := sn_i3 (List.mem_of_getElem? (i := 200) rfl) rfl
theorem ms_FO_findDual : Cond.selects "SwitchedNets$Formulas" y_FO_findDual y_FO_findDual ∈ sn_ws := sn_i0 (List.mem_of_getElem? (i := 24) rfl) rfl
theorem mc_FO_addDual : Cond.code y_FO_addDual prog_2_method_10_code 2 none ∈ sn_ws := sn_i4 (List.mem_of_getElem? (i := 1) rfl) rfl
theorem mi_FO_addDual : Cond.instanceMethod y_FO_addDual ∈ sn_ws := sn_i4 (List.mem_of_getElem? (i := 0) rfl) rfl
theorem ms_FO_addDual : Cond.selects "SwitchedNets$Formulas" y_FO_addDual y_FO_addDual ∈ sn_ws := sn_i0 (List.mem_of_getElem? (i := 27) rfl) rfl
theorem mc_FO_partWithoutDual : Cond.code y_FO_partWithoutDual prog_2_method_11_code 2 (some .int) ∈ sn_ws := sn_i3 (List.mem_of_getElem? (i := 237) rfl) rfl
theorem mi_FO_partWithoutDual : Cond.instanceMethod y_FO_partWithoutDual ∈ sn_ws := sn_i3 (List.mem_of_getElem? (i := 236) rfl) rfl
theorem ms_FO_partWithoutDual : Cond.selects "SwitchedNets$Formulas" y_FO_partWithoutDual y_FO_partWithoutDual ∈ sn_ws := sn_i0 (List.mem_of_getElem? (i := 26) rfl) rfl
theorem mc_FO_missingDuals : Cond.code y_FO_missingDuals prog_2_method_12_code 4 (some .int) ∈ sn_ws := sn_i3 (List.mem_of_getElem? (i := 228) rfl) rfl
theorem mi_FO_missingDuals : Cond.instanceMethod y_FO_missingDuals ∈ sn_ws := sn_i3 (List.mem_of_getElem? (i := 227) rfl) rfl
theorem ms_FO_missingDuals : Cond.selects "SwitchedNets$Formulas" y_FO_missingDuals y_FO_missingDuals ∈ sn_ws := sn_i0 (List.mem_of_getElem? (i := 25) rfl) rfl
theorem mc_FO_otherKind : Cond.code y_FO_otherKind prog_2_method_13_code 1 (some .int) ∈ sn_ws := sn_i3 (List.mem_of_getElem? (i := 204) rfl) rfl
theorem mt_FO_otherKind : Cond.static y_FO_otherKind ∈ sn_ws := sn_i3 (List.mem_of_getElem? (i := 203) rfl) rfl
def y_LK_holds : MethodName := ⟨"SwitchedNets$Likeness", "holds", "(LSwitchedNets$Structure;LSwitchedNets$Structure;)Z"⟩
def y_LK_layEdge : MethodName := ⟨"SwitchedNets$Likeness", "layEdge", "(LSwitchedNets$Structure;ILSwitchedNets$Structure;I)Z"⟩
def y_LK_layLink : MethodName := ⟨"SwitchedNets$Likeness", "layLink", "(LSwitchedNets$Structure;ILSwitchedNets$Structure;I)Z"⟩
theorem mz_LK : Cond.initialized "SwitchedNets$Likeness" ∈ sn_ws := sn_i1 (List.mem_of_getElem? (i := 6) rfl) rfl
theorem mc_LK_holds : Cond.code y_LK_holds prog_3_method_2_code 7 (some .boolean) ∈ sn_ws := sn_i2 (List.mem_of_getElem? (i := 216) rfl) rfl
theorem mi_LK_holds : Cond.instanceMethod y_LK_holds ∈ sn_ws := sn_i2 (List.mem_of_getElem? (i := 214) rfl) rfl
theorem ms_LK_holds : Cond.selects "SwitchedNets$Likeness" y_LK_holds y_LK_holds ∈ sn_ws := sn_i2 (List.mem_of_getElem? (i := 215) rfl) rfl
theorem mc_LK_layEdge : Cond.code y_LK_layEdge prog_3_method_3_code 5 (some .boolean) ∈ sn_ws := sn_i2 (List.mem_of_getElem? (i := 223) rfl) rfl
theorem mi_LK_layEdge : Cond.instanceMethod y_LK_layEdge ∈ sn_ws := sn_i2 (List.mem_of_getElem? (i := 222) rfl) rfl
theorem ms_LK_layEdge : Cond.selects "SwitchedNets$Likeness" y_LK_layEdge y_LK_layEdge ∈ sn_ws := sn_i0 (List.mem_of_getElem? (i := 9) rfl) rfl
theorem mc_LK_layLink : Cond.code y_LK_layLink prog_3_method_4_code 6 (some .boolean) ∈ sn_ws := sn_i2 (List.mem_of_getElem? (i := 227) rfl) rfl
theorem mi_LK_layLink : Cond.instanceMethod y_LK_layLink ∈ sn_ws := sn_i2 (List.mem_of_getElem? (i := 226) rfl) rfl
theorem ms_LK_layLink : Cond.selects "SwitchedNets$Likeness" y_LK_layLink y_LK_layLink ∈ sn_ws := sn_i0 (List.mem_of_getElem? (i := 10) rfl) rfl
def y_LS_countFor : MethodName := ⟨"SwitchedNets$LinkingSearch", "countFor", "(LSwitchedNets$Formulas;I)I"⟩
def y_LS_foundPartner : MethodName := ⟨"SwitchedNets$LinkingSearch", "foundPartner", "(II)I"⟩
def y_LS_assembleFound : MethodName := ⟨"SwitchedNets$LinkingSearch", "assembleFound", "(LSwitchedNets$Formulas;ILSwitchedNets$Structure;)V"⟩
def y_LS_listParts : MethodName := ⟨"SwitchedNets$LinkingSearch", "listParts", "(LSwitchedNets$Formulas;II)V"⟩
def y_LS_canBeTree : MethodName := ⟨"SwitchedNets$LinkingSearch", "canBeTree", "()Z"⟩
def y_LS_pairUp : MethodName := ⟨"SwitchedNets$LinkingSearch", "pairUp", "(LSwitchedNets$Formulas;I)V"⟩
def y_LS_firstAlone : MethodName := ⟨"SwitchedNets$LinkingSearch", "firstAlone", "()I"⟩
def y_LS_assemble : MethodName := ⟨"SwitchedNets$LinkingSearch", "assemble", "(LSwitchedNets$Formulas;LSwitchedNets$Structure;)V"⟩
theorem mz_LS : Cond.initialized "SwitchedNets$LinkingSearch" ∈ sn_ws := sn_i1 (List.mem_of_getElem? (i := 7) rfl) rfl
theorem mc_LS_countFor : Cond.code y_LS_countFor prog_4_method_2_code 3 (some .int) ∈ sn_ws := sn_i3 (List.mem_of_getElem? (i := 32) rfl) rfl
theorem mi_LS_countFor : Cond.instanceMethod y_LS_countFor ∈ sn_ws := sn_i3 (List.mem_of_getElem? (i := 30) rfl) rfl
theorem ms_LS_countFor : Cond.selects "SwitchedNets$LinkingSearch" y_LS_countFor y_LS_countFor ∈ sn_ws := sn_i3 (List.mem_of_getElem? (i := 31) rfl) rfl
theorem mc_LS_foundPartner : Cond.code y_LS_foundPartner prog_4_method_3_code 3 (some .int) ∈ sn_ws := sn_i3 (List.mem_of_getElem? (i := 78) rfl) rfl
theorem mi_LS_foundPartner : Cond.instanceMethod y_LS_foundPartner ∈ sn_ws := sn_i3 (List.mem_of_getElem? (i := 76) rfl) rfl
theorem ms_LS_foundPartner : Cond.selects "SwitchedNets$LinkingSearch" y_LS_foundPartner y_LS_foundPartner ∈ sn_ws := sn_i3 (List.mem_of_getElem? (i := 77) rfl) rfl
theorem mc_LS_assembleFound : Cond.code y_LS_assembleFound prog_4_method_4_code 4 none ∈ sn_ws := sn_i3 (List.mem_of_getElem? (i := 86) rfl) rfl
theorem mi_LS_assembleFound : Cond.instanceMethod y_LS_assembleFound ∈ sn_ws := sn_i3 (List.mem_of_getElem? (i := 84) rfl) rfl
theorem ms_LS_assembleFound : Cond.selects "SwitchedNets$LinkingSearch" y_LS_assembleFound y_LS_assembleFound ∈ sn_ws := sn_i3 (List.mem_of_getElem? (i := 85) rfl) rfl
theorem mc_LS_listParts : Cond.code y_LS_listParts prog_4_method_5_code 4 none ∈ sn_ws := sn_i3 (List.mem_of_getElem? (i := 37) rfl) rfl
theorem mi_LS_listParts : Cond.instanceMethod y_LS_listParts ∈ sn_ws := sn_i3 (List.mem_of_getElem? (i := 36) rfl) rfl
theorem ms_LS_listParts : Cond.selects "SwitchedNets$LinkingSearch" y_LS_listParts y_LS_listParts ∈ sn_ws := sn_i0 (List.mem_of_getElem? (i := 15) rfl) rfl
theorem mc_LS_canBeTree : Cond.code y_LS_canBeTree prog_4_method_6_code 1 (some .boolean) ∈ sn_ws := sn_i3 (List.mem_of_getElem? (i := 42) rfl) rfl
theorem mi_LS_canBeTree : Cond.instanceMethod y_LS_canBeTree ∈ sn_ws := sn_i3 (List.mem_of_getElem? (i := 41) rfl) rfl
theorem ms_LS_canBeTree : Cond.selects "SwitchedNets$LinkingSearch" y_LS_canBeTree y_LS_canBeTree ∈ sn_ws := sn_i0 (List.mem_of_getElem? (i := 16) rfl) rfl
theorem mc_LS_pairUp : Cond.code y_LS_pairUp prog_4_method_7_code 5 none ∈ sn_ws := sn_i3 (List.mem_of_getElem? (i := 46) rfl) rfl
theorem mi_LS_pairUp : Cond.instanceMethod y_LS_pairUp ∈ sn_ws := sn_i3 (List.mem_of_getElem? (i := 45) rfl) rfl
theorem ms_LS_pairUp : Cond.selects "SwitchedNets$LinkingSearch" y_LS_pairUp y_LS_pairUp ∈ sn_ws := sn_i0 (List.mem_of_getElem? (i := 17) rfl) rfl
theorem mc_LS_firstAlone : Cond.code y_LS_firstAlone prog_4_method_8_code 2 (some .int) ∈ sn_ws := sn_i3 (List.mem_of_getElem? (i := 70) rfl) rfl
theorem mi_LS_firstAlone : Cond.instanceMethod y_LS_firstAlone ∈ sn_ws := sn_i3 (List.mem_of_getElem? (i := 69) rfl) rfl
theorem ms_LS_firstAlone : Cond.selects "SwitchedNets$LinkingSearch" y_LS_firstAlone y_LS_firstAlone ∈ sn_ws := sn_i0 (List.mem_of_getElem? (i := 20) rfl) rfl
theorem mc_LS_assemble : Cond.code y_LS_assemble prog_4_method_9_code 8 none ∈ sn_ws := sn_i3 (List.mem_of_getElem? (i := 50) rfl) rfl
theorem mi_LS_assemble : Cond.instanceMethod y_LS_assemble ∈ sn_ws := sn_i3 (List.mem_of_getElem? (i := 49) rfl) rfl
theorem ms_LS_assemble : Cond.selects "SwitchedNets$LinkingSearch" y_LS_assemble y_LS_assemble ∈ sn_ws := sn_i0 (List.mem_of_getElem? (i := 18) rfl) rfl
def y_PR_read : MethodName := ⟨"SwitchedNets$Proof", "read", "(LSwitchedNets$Structure;)V"⟩
def y_PR_allLinks : MethodName := ⟨"SwitchedNets$Proof", "allLinks", "(LSwitchedNets$Structure;)J"⟩
def y_PR_lastRule : MethodName := ⟨"SwitchedNets$Proof", "lastRule", "(LSwitchedNets$Structure;J)I"⟩
def y_PR_isLowest : MethodName := ⟨"SwitchedNets$Proof", "isLowest", "(LSwitchedNets$Structure;IJ)Z"⟩
def y_PR_splits : MethodName := ⟨"SwitchedNets$Proof", "splits", "(LSwitchedNets$Structure;IJ)Z"⟩
def y_PR_reach : MethodName := ⟨"SwitchedNets$Proof", "reach", "(LSwitchedNets$Structure;IJ)J"⟩
def y_PR_enter : MethodName := ⟨"SwitchedNets$Proof", "enter", "(IJ)V"⟩
def y_PR_bit : MethodName := ⟨"SwitchedNets$Proof", "bit", "(I)J"⟩
def y_PR_isIn : MethodName := ⟨"SwitchedNets$Proof", "isIn", "(JI)Z"⟩
theorem mz_PR : Cond.initialized "SwitchedNets$Proof" ∈ sn_ws := sn_i1 (List.mem_of_getElem? (i := 5) rfl) rfl
theorem mc_PR_read : Cond.code y_PR_read prog_5_method_2_code 11 none ∈ sn_ws := sn_i2 (List.mem_of_getElem? (i := 235) rfl) rfl
theorem mi_PR_read : Cond.instanceMethod y_PR_read ∈ sn_ws := sn_i2 (List.mem_of_getElem? (i := 233) rfl) rfl
theorem ms_PR_read : Cond.selects "SwitchedNets$Proof" y_PR_read y_PR_read ∈ sn_ws := sn_i2 (List.mem_of_getElem? (i := 234) rfl) rfl
theorem mc_PR_allLinks : Cond.code y_PR_allLinks prog_5_method_3_code 4 (some .long) ∈ sn_ws := sn_i2 (List.mem_of_getElem? (i := 238) rfl) rfl
theorem mt_PR_allLinks : Cond.static y_PR_allLinks ∈ sn_ws := sn_i2 (List.mem_of_getElem? (i := 237) rfl) rfl
theorem mc_PR_lastRule : Cond.code y_PR_lastRule prog_5_method_4_code 7 (some .int) ∈ sn_ws := sn_i3 (List.mem_of_getElem? (i := 5) rfl) rfl
theorem mi_PR_lastRule : Cond.instanceMethod y_PR_lastRule ∈ sn_ws := sn_i3 (List.mem_of_getElem? (i := 4) rfl) rfl
theorem ms_PR_lastRule : Cond.selects "SwitchedNets$Proof" y_PR_lastRule y_PR_lastRule ∈ sn_ws := sn_i0 (List.mem_of_getElem? (i := 11) rfl) rfl
theorem mc_PR_isLowest : Cond.code y_PR_isLowest prog_5_method_5_code 5 (some .boolean) ∈ sn_ws := sn_i3 (List.mem_of_getElem? (i := 11) rfl) rfl
theorem mt_PR_isLowest : Cond.static y_PR_isLowest ∈ sn_ws := sn_i3 (List.mem_of_getElem? (i := 10) rfl) rfl
theorem mc_PR_splits : Cond.code y_PR_splits prog_5_method_6_code 7 (some .boolean) ∈ sn_ws := sn_i3 (List.mem_of_getElem? (i := 15) rfl) rfl
theorem mi_PR_splits : Cond.instanceMethod y_PR_splits ∈ sn_ws := sn_i3 (List.mem_of_getElem? (i := 14) rfl) rfl
theorem ms_PR_splits : Cond.selects "SwitchedNets$Proof" y_PR_splits y_PR_splits ∈ sn_ws := sn_i0 (List.mem_of_getElem? (i := 12) rfl) rfl
theorem mc_PR_reach : Cond.code y_PR_reach prog_5_method_7_code 7 (some .long) ∈ sn_ws := sn_i3 (List.mem_of_getElem? (i := 20) rfl) rfl
theorem mi_PR_reach : Cond.instanceMethod y_PR_reach ∈ sn_ws := sn_i3 (List.mem_of_getElem? (i := 19) rfl) rfl
theorem ms_PR_reach : Cond.selects "SwitchedNets$Proof" y_PR_reach y_PR_reach ∈ sn_ws := sn_i0 (List.mem_of_getElem? (i := 13) rfl) rfl
theorem mc_PR_enter : Cond.code y_PR_enter prog_5_method_8_code 4 none ∈ sn_ws := sn_i3 (List.mem_of_getElem? (i := 24) rfl) rfl
theorem mi_PR_enter : Cond.instanceMethod y_PR_enter ∈ sn_ws := sn_i3 (List.mem_of_getElem? (i := 23) rfl) rfl
theorem ms_PR_enter : Cond.selects "SwitchedNets$Proof" y_PR_enter y_PR_enter ∈ sn_ws := sn_i0 (List.mem_of_getElem? (i := 14) rfl) rfl
theorem mc_PR_bit : Cond.code y_PR_bit prog_5_method_9_code 1 (some .long) ∈ sn_ws := sn_i3 (List.mem_of_getElem? (i := 1) rfl) rfl
theorem mt_PR_bit : Cond.static y_PR_bit ∈ sn_ws := sn_i3 (List.mem_of_getElem? (i := 0) rfl) rfl
theorem mc_PR_isIn : Cond.code y_PR_isIn prog_5_method_10_code 3 (some .boolean) ∈ sn_ws := sn_i3 (List.mem_of_getElem? (i := 8) rfl) rfl
theorem mt_PR_isIn : Cond.static y_PR_isIn ∈ sn_ws := sn_i3 (List.mem_of_getElem? (i := 7) rfl) rfl
def y_ST_empty : MethodName := ⟨"SwitchedNets$Structure", "empty", "()V"⟩
def y_ST_copyFrom : MethodName := ⟨"SwitchedNets$Structure", "copyFrom", "(LSwitchedNets$Structure;)V"⟩
def y_ST_hasLink : MethodName := ⟨"SwitchedNets$Structure", "hasLink", "(I)Z"⟩
def y_ST_hasEdge : MethodName := ⟨"SwitchedNets$Structure", "hasEdge", "(I)Z"⟩
def y_ST_isFree : MethodName := ⟨"SwitchedNets$Structure", "isFree", "(I)Z"⟩
def y_ST_isComplete : MethodName := ⟨"SwitchedNets$Structure", "isComplete", "()Z"⟩
def y_ST_hasRoomFor : MethodName := ⟨"SwitchedNets$Structure", "hasRoomFor", "(I)Z"⟩
def y_ST_addAxiom : MethodName := ⟨"SwitchedNets$Structure", "addAxiom", "(II)I"⟩
def y_ST_addJoin : MethodName := ⟨"SwitchedNets$Structure", "addJoin", "(IIII)I"⟩
def y_ST_addCut : MethodName := ⟨"SwitchedNets$Structure", "addCut", "(II)I"⟩
def y_ST_nameEdge : MethodName := ⟨"SwitchedNets$Structure", "nameEdge", "(I)I"⟩
def y_ST_cutAt : MethodName := ⟨"SwitchedNets$Structure", "cutAt", "(I)I"⟩
def y_ST_reduceCut : MethodName := ⟨"SwitchedNets$Structure", "reduceCut", "(I)Z"⟩
def y_ST_addLink : MethodName := ⟨"SwitchedNets$Structure", "addLink", "(I)I"⟩
def y_ST_addEdge : MethodName := ⟨"SwitchedNets$Structure", "addEdge", "(II)I"⟩
def y_ST_takePremises : MethodName := ⟨"SwitchedNets$Structure", "takePremises", "(III)V"⟩
def y_ST_passAxiom : MethodName := ⟨"SwitchedNets$Structure", "passAxiom", "(III)V"⟩
def y_ST_takePlace : MethodName := ⟨"SwitchedNets$Structure", "takePlace", "(II)V"⟩
def y_ST_splitCut : MethodName := ⟨"SwitchedNets$Structure", "splitCut", "(III)Z"⟩
def y_ST_removeLink : MethodName := ⟨"SwitchedNets$Structure", "removeLink", "(I)V"⟩
theorem mz_ST : Cond.initialized "SwitchedNets$Structure" ∈ sn_ws := sn_i1 (List.mem_of_getElem? (i := 3) rfl) rfl
theorem mc_ST_empty : Cond.code y_ST_empty prog_6_method_2_code 1 none ∈ sn_ws := sn_i2 (List.mem_of_getElem? (i := 76) rfl) rfl
theorem mi_ST_empty : Cond.instanceMethod y_ST_empty ∈ sn_ws := sn_i2 (List.mem_of_getElem? (i := 74) rfl) rfl
theorem ms_ST_empty : Cond.selects "SwitchedNets$Structure" y_ST_empty y_ST_empty ∈ sn_ws := sn_i2 (List.mem_of_getElem? (i := 75) rfl) rfl
theorem mc_ST_copyFrom : Cond.code y_ST_copyFrom prog_6_method_3_code 2 none ∈ sn_ws := sn_i2 (List.mem_of_getElem? (i := 203) rfl) rfl
theorem mi_ST_copyFrom : Cond.instanceMethod y_ST_copyFrom ∈ sn_ws := sn_i2 (List.mem_of_getElem? (i := 201) rfl) rfl
theorem ms_ST_copyFrom : Cond.selects "SwitchedNets$Structure" y_ST_copyFrom y_ST_copyFrom ∈ sn_ws := sn_i2 (List.mem_of_getElem? (i := 202) rfl) rfl
theorem mc_ST_hasLink : Cond.code y_ST_hasLink prog_6_method_4_code 2 (some .boolean) ∈ sn_ws := sn_i2 (List.mem_of_getElem? (i := 100) rfl) rfl
theorem mi_ST_hasLink : Cond.instanceMethod y_ST_hasLink ∈ sn_ws := sn_i2 (List.mem_of_getElem? (i := 98) rfl) rfl
theorem ms_ST_hasLink : Cond.selects "SwitchedNets$Structure" y_ST_hasLink y_ST_hasLink ∈ sn_ws := sn_i2 (List.mem_of_getElem? (i := 99) rfl) rfl
theorem mc_ST_hasEdge : Cond.code y_ST_hasEdge prog_6_method_5_code 2 (some .boolean) ∈ sn_ws := sn_i2 (List.mem_of_getElem? (i := 88) rfl) rfl
theorem mi_ST_hasEdge : Cond.instanceMethod y_ST_hasEdge ∈ sn_ws := sn_i2 (List.mem_of_getElem? (i := 86) rfl) rfl
theorem ms_ST_hasEdge : Cond.selects "SwitchedNets$Structure" y_ST_hasEdge y_ST_hasEdge ∈ sn_ws := sn_i2 (List.mem_of_getElem? (i := 87) rfl) rfl
theorem mc_ST_isFree : Cond.code y_ST_isFree prog_6_method_6_code 2 (some .boolean) ∈ sn_ws := sn_i2 (List.mem_of_getElem? (i := 84) rfl) rfl
theorem mi_ST_isFree : Cond.instanceMethod y_ST_isFree ∈ sn_ws := sn_i2 (List.mem_of_getElem? (i := 82) rfl) rfl
theorem ms_ST_isFree : Cond.selects "SwitchedNets$Structure" y_ST_isFree y_ST_isFree ∈ sn_ws := sn_i2 (List.mem_of_getElem? (i := 83) rfl) rfl
theorem mc_ST_isComplete : Cond.code y_ST_isComplete prog_6_method_7_code 2 (some .boolean) ∈ sn_ws := sn_i2 (List.mem_of_getElem? (i := 125) rfl) rfl
theorem mi_ST_isComplete : Cond.instanceMethod y_ST_isComplete ∈ sn_ws := sn_i2 (List.mem_of_getElem? (i := 123) rfl) rfl
theorem ms_ST_isComplete : Cond.selects "SwitchedNets$Structure" y_ST_isComplete y_ST_isComplete ∈ sn_ws := sn_i2 (List.mem_of_getElem? (i := 124) rfl) rfl
theorem mc_ST_hasRoomFor : Cond.code y_ST_hasRoomFor prog_6_method_8_code 3 (some .boolean) ∈ sn_ws := sn_i4 (List.mem_of_getElem? (i := 12) rfl) rfl
theorem mi_ST_hasRoomFor : Cond.instanceMethod y_ST_hasRoomFor ∈ sn_ws := sn_i4 (List.mem_of_getElem? (i := 10) rfl) rfl
theorem ms_ST_hasRoomFor : Cond.selects "SwitchedNets$Structure" y_ST_hasRoomFor y_ST_hasRoomFor ∈ sn_ws := sn_i4 (List.mem_of_getElem? (i := 11) rfl) rfl
theorem mc_ST_addAxiom : Cond.code y_ST_addAxiom prog_6_method_9_code 4 (some .int) ∈ sn_ws := sn_i3 (List.mem_of_getElem? (i := 55) rfl) rfl
theorem mi_ST_addAxiom : Cond.instanceMethod y_ST_addAxiom ∈ sn_ws := sn_i3 (List.mem_of_getElem? (i := 53) rfl) rfl
theorem ms_ST_addAxiom : Cond.selects "SwitchedNets$Structure" y_ST_addAxiom y_ST_addAxiom ∈ sn_ws := sn_i3 (List.mem_of_getElem? (i := 54) rfl) rfl
theorem mc_ST_addJoin : Cond.code y_ST_addJoin prog_6_method_10_code 6 (some .int) ∈ sn_ws := sn_i3 (List.mem_of_getElem? (i := 63) rfl) rfl
theorem mi_ST_addJoin : Cond.instanceMethod y_ST_addJoin ∈ sn_ws := sn_i3 (List.mem_of_getElem? (i := 61) rfl) rfl
theorem ms_ST_addJoin : Cond.selects "SwitchedNets$Structure" y_ST_addJoin y_ST_addJoin ∈ sn_ws := sn_i3 (List.mem_of_getElem? (i := 62) rfl) rfl
theorem mc_ST_addCut : Cond.code y_ST_addCut prog_6_method_11_code 4 (some .int) ∈ sn_ws := sn_i2 (List.mem_of_getElem? (i := 187) rfl) rfl
theorem mi_ST_addCut : Cond.instanceMethod y_ST_addCut ∈ sn_ws := sn_i2 (List.mem_of_getElem? (i := 185) rfl) rfl
theorem ms_ST_addCut : Cond.selects "SwitchedNets$Structure" y_ST_addCut y_ST_addCut ∈ sn_ws := sn_i2 (List.mem_of_getElem? (i := 186) rfl) rfl
theorem mc_ST_nameEdge : Cond.code y_ST_nameEdge prog_6_method_12_code 3 (some .int) ∈ sn_ws := sn_i2 (List.mem_of_getElem? (i := 92) rfl) rfl
theorem mi_ST_nameEdge : Cond.instanceMethod y_ST_nameEdge ∈ sn_ws := sn_i2 (List.mem_of_getElem? (i := 90) rfl) rfl
theorem ms_ST_nameEdge : Cond.selects "SwitchedNets$Structure" y_ST_nameEdge y_ST_nameEdge ∈ sn_ws := sn_i2 (List.mem_of_getElem? (i := 91) rfl) rfl
theorem mc_ST_cutAt : Cond.code y_ST_cutAt prog_6_method_13_code 4 (some .int) ∈ sn_ws := sn_i2 (List.mem_of_getElem? (i := 163) rfl) rfl
theorem mi_ST_cutAt : Cond.instanceMethod y_ST_cutAt ∈ sn_ws := sn_i2 (List.mem_of_getElem? (i := 161) rfl) rfl
theorem ms_ST_cutAt : Cond.selects "SwitchedNets$Structure" y_ST_cutAt y_ST_cutAt ∈ sn_ws := sn_i2 (List.mem_of_getElem? (i := 162) rfl) rfl
theorem mc_ST_reduceCut : Cond.code y_ST_reduceCut prog_6_method_14_code 4 (some .boolean) ∈ sn_ws := sn_i2 (List.mem_of_getElem? (i := 167) rfl) rfl
theorem mi_ST_reduceCut : Cond.instanceMethod y_ST_reduceCut ∈ sn_ws := sn_i2 (List.mem_of_getElem? (i := 165) rfl) rfl
theorem ms_ST_reduceCut : Cond.selects "SwitchedNets$Structure" y_ST_reduceCut y_ST_reduceCut ∈ sn_ws := sn_i2 (List.mem_of_getElem? (i := 166) rfl) rfl
theorem mc_ST_addLink : Cond.code y_ST_addLink prog_6_method_15_code 3 (some .int) ∈ sn_ws := sn_i2 (List.mem_of_getElem? (i := 191) rfl) rfl
theorem mi_ST_addLink : Cond.instanceMethod y_ST_addLink ∈ sn_ws := sn_i2 (List.mem_of_getElem? (i := 190) rfl) rfl
theorem ms_ST_addLink : Cond.selects "SwitchedNets$Structure" y_ST_addLink y_ST_addLink ∈ sn_ws := sn_i0 (List.mem_of_getElem? (i := 7) rfl) rfl
theorem mc_ST_addEdge : Cond.code y_ST_addEdge prog_6_method_16_code 4 (some .int) ∈ sn_ws := sn_i3 (List.mem_of_getElem? (i := 59) rfl) rfl
theorem mi_ST_addEdge : Cond.instanceMethod y_ST_addEdge ∈ sn_ws := sn_i3 (List.mem_of_getElem? (i := 58) rfl) rfl
theorem ms_ST_addEdge : Cond.selects "SwitchedNets$Structure" y_ST_addEdge y_ST_addEdge ∈ sn_ws := sn_i0 (List.mem_of_getElem? (i := 19) rfl) rfl
theorem mc_ST_takePremises : Cond.code y_ST_takePremises prog_6_method_17_code 4 none ∈ sn_ws := sn_i2 (List.mem_of_getElem? (i := 195) rfl) rfl
theorem mi_ST_takePremises : Cond.instanceMethod y_ST_takePremises ∈ sn_ws := sn_i2 (List.mem_of_getElem? (i := 194) rfl) rfl
theorem ms_ST_takePremises : Cond.selects "SwitchedNets$Structure" y_ST_takePremises y_ST_takePremises ∈ sn_ws := sn_i0 (List.mem_of_getElem? (i := 8) rfl) rfl
theorem mc_ST_passAxiom : Cond.code y_ST_passAxiom prog_6_method_18_code 6 none ∈ sn_ws := sn_i2 (List.mem_of_getElem? (i := 171) rfl) rfl
theorem mi_ST_passAxiom : Cond.instanceMethod y_ST_passAxiom ∈ sn_ws := sn_i2 (List.mem_of_getElem? (i := 170) rfl) rfl
theorem ms_ST_passAxiom : Cond.selects "SwitchedNets$Structure" y_ST_passAxiom y_ST_passAxiom ∈ sn_ws := sn_i0 (List.mem_of_getElem? (i := 3) rfl) rfl
theorem mc_ST_takePlace : Cond.code y_ST_takePlace prog_6_method_19_code 4 none ∈ sn_ws := sn_i2 (List.mem_of_getElem? (i := 175) rfl) rfl
theorem mi_ST_takePlace : Cond.instanceMethod y_ST_takePlace ∈ sn_ws := sn_i2 (List.mem_of_getElem? (i := 174) rfl) rfl
theorem ms_ST_takePlace : Cond.selects "SwitchedNets$Structure" y_ST_takePlace y_ST_takePlace ∈ sn_ws := sn_i0 (List.mem_of_getElem? (i := 4) rfl) rfl
theorem mc_ST_splitCut : Cond.code y_ST_splitCut prog_6_method_20_code 6 (some .boolean) ∈ sn_ws := sn_i2 (List.mem_of_getElem? (i := 183) rfl) rfl
theorem mi_ST_splitCut : Cond.instanceMethod y_ST_splitCut ∈ sn_ws := sn_i2 (List.mem_of_getElem? (i := 182) rfl) rfl
theorem ms_ST_splitCut : Cond.selects "SwitchedNets$Structure" y_ST_splitCut y_ST_splitCut ∈ sn_ws := sn_i0 (List.mem_of_getElem? (i := 6) rfl) rfl
theorem mc_ST_removeLink : Cond.code y_ST_removeLink prog_6_method_21_code 2 none ∈ sn_ws := sn_i2 (List.mem_of_getElem? (i := 179) rfl) rfl
theorem mi_ST_removeLink : Cond.instanceMethod y_ST_removeLink ∈ sn_ws := sn_i2 (List.mem_of_getElem? (i := 178) rfl) rfl
theorem ms_ST_removeLink : Cond.selects "SwitchedNets$Structure" y_ST_removeLink y_ST_removeLink ∈ sn_ws := sn_i0 (List.mem_of_getElem? (i := 5) rfl) rfl
def y_SW_weigh : MethodName := ⟨"SwitchedNets$Switchings", "weigh", "(LSwitchedNets$Structure;)I"⟩
def y_SW_joinWithoutPars : MethodName := ⟨"SwitchedNets$Switchings", "joinWithoutPars", "(LSwitchedNets$Structure;)V"⟩
def y_SW_lastChanged : MethodName := ⟨"SwitchedNets$Switchings", "lastChanged", "(II)I"⟩
def y_SW_choose : MethodName := ⟨"SwitchedNets$Switchings", "choose", "(LSwitchedNets$Structure;IZ)V"⟩
def y_SW_join : MethodName := ⟨"SwitchedNets$Switchings", "join", "(III)V"⟩
def y_SW_rootOf : MethodName := ⟨"SwitchedNets$Switchings", "rootOf", "([II)I"⟩
theorem mz_SW : Cond.initialized "SwitchedNets$Switchings" ∈ sn_ws := sn_i1 (List.mem_of_getElem? (i := 4) rfl) rfl
theorem mc_SW_weigh : Cond.code y_SW_weigh prog_7_method_2_code 5 (some .int) ∈ sn_ws := sn_i2 (List.mem_of_getElem? (i := 121) rfl) rfl
theorem mi_SW_weigh : Cond.instanceMethod y_SW_weigh ∈ sn_ws := sn_i2 (List.mem_of_getElem? (i := 119) rfl) rfl
theorem ms_SW_weigh : Cond.selects "SwitchedNets$Switchings" y_SW_weigh y_SW_weigh ∈ sn_ws := sn_i2 (List.mem_of_getElem? (i := 120) rfl) rfl
theorem mc_SW_joinWithoutPars : Cond.code y_SW_joinWithoutPars prog_7_method_3_code 5 none ∈ sn_ws := sn_i2 (List.mem_of_getElem? (i := 130) rfl) rfl
theorem mi_SW_joinWithoutPars : Cond.instanceMethod y_SW_joinWithoutPars ∈ sn_ws := sn_i2 (List.mem_of_getElem? (i := 129) rfl) rfl
theorem ms_SW_joinWithoutPars : Cond.selects "SwitchedNets$Switchings" y_SW_joinWithoutPars y_SW_joinWithoutPars ∈ sn_ws := sn_i0 (List.mem_of_getElem? (i := 0) rfl) rfl
theorem mc_SW_lastChanged : Cond.code y_SW_lastChanged prog_7_method_4_code 3 (some .int) ∈ sn_ws := sn_i2 (List.mem_of_getElem? (i := 140) rfl) rfl
theorem mt_SW_lastChanged : Cond.static y_SW_lastChanged ∈ sn_ws := sn_i2 (List.mem_of_getElem? (i := 139) rfl) rfl
theorem mc_SW_choose : Cond.code y_SW_choose prog_7_method_5_code 5 none ∈ sn_ws := sn_i2 (List.mem_of_getElem? (i := 144) rfl) rfl
theorem mi_SW_choose : Cond.instanceMethod y_SW_choose ∈ sn_ws := sn_i2 (List.mem_of_getElem? (i := 143) rfl) rfl
theorem ms_SW_choose : Cond.selects "SwitchedNets$Switchings" y_SW_choose y_SW_choose ∈ sn_ws := sn_i0 (List.mem_of_getElem? (i := 2) rfl) rfl
theorem mc_SW_join : Cond.code y_SW_join prog_7_method_6_code 6 none ∈ sn_ws := sn_i2 (List.mem_of_getElem? (i := 134) rfl) rfl
theorem mi_SW_join : Cond.instanceMethod y_SW_join ∈ sn_ws := sn_i2 (List.mem_of_getElem? (i := 133) rfl) rfl
theorem ms_SW_join : Cond.selects "SwitchedNets$Switchings" y_SW_join y_SW_join ∈ sn_ws := sn_i0 (List.mem_of_getElem? (i := 1) rfl) rfl
theorem mc_SW_rootOf : Cond.code y_SW_rootOf prog_7_method_7_code 4 (some .int) ∈ sn_ws := sn_i2 (List.mem_of_getElem? (i := 137) rfl) rfl
theorem mt_SW_rootOf : Cond.static y_SW_rootOf ∈ sn_ws := sn_i2 (List.mem_of_getElem? (i := 136) rfl) rfl
def y_SN_atom : MethodName := ⟨"SwitchedNets", "atom", "(IZ)I"⟩
def y_SN_pair : MethodName := ⟨"SwitchedNets", "pair", "(IIZ)I"⟩
def y_SN_dual : MethodName := ⟨"SwitchedNets", "dual", "(I)I"⟩
def y_SN_formula : MethodName := ⟨"SwitchedNets", "formula", "(II)I"⟩
def y_SN_clear : MethodName := ⟨"SwitchedNets", "clear", "()I"⟩
def y_SN_axiom : MethodName := ⟨"SwitchedNets", "axiom", "(I)I"⟩
def y_SN_link : MethodName := ⟨"SwitchedNets", "link", "(IIZ)I"⟩
def y_SN_cut : MethodName := ⟨"SwitchedNets", "cut", "(II)I"⟩
def y_SN_conclude : MethodName := ⟨"SwitchedNets", "conclude", "(I)I"⟩
def y_SN_look : MethodName := ⟨"SwitchedNets", "look", "(II)I"⟩
def y_SN_type : MethodName := ⟨"SwitchedNets", "type", "(I)I"⟩
def y_SN_conclusion : MethodName := ⟨"SwitchedNets", "conclusion", "(I)I"⟩
def y_SN_links : MethodName := ⟨"SwitchedNets", "links", "()I"⟩
def y_SN_judge : MethodName := ⟨"SwitchedNets", "judge", "()I"⟩
def y_SN_fault : MethodName := ⟨"SwitchedNets", "fault", "()I"⟩
def y_SN_cuts : MethodName := ⟨"SwitchedNets", "cuts", "()I"⟩
def y_SN_reduce : MethodName := ⟨"SwitchedNets", "reduce", "(I)Z"⟩
def y_SN_normalise : MethodName := ⟨"SwitchedNets", "normalise", "(I)I"⟩
def y_SN_keep : MethodName := ⟨"SwitchedNets", "keep", "()V"⟩
def y_SN_same : MethodName := ⟨"SwitchedNets", "same", "()Z"⟩
def y_SN_rule : MethodName := ⟨"SwitchedNets", "rule", "(I)I"⟩
def y_SN_linkings : MethodName := ⟨"SwitchedNets", "linkings", "(I)I"⟩
def y_SN_partner : MethodName := ⟨"SwitchedNets", "partner", "(III)I"⟩
def y_SN_build : MethodName := ⟨"SwitchedNets", "build", "(II)I"⟩
theorem mz_SN : Cond.initialized "SwitchedNets" ∈ sn_ws := sn_i1 (List.mem_of_getElem? (i := 1) rfl) rfl
theorem mc_SN_atom : Cond.code y_SN_atom prog_1_method_2_code 4 (some .int) ∈ sn_ws := sn_i3 (List.mem_of_getElem? (i := 95) rfl) rfl
theorem mi_SN_atom : Cond.instanceMethod y_SN_atom ∈ sn_ws := sn_i3 (List.mem_of_getElem? (i := 93) rfl) rfl
theorem ms_SN_atom : Cond.selects "SwitchedNets" y_SN_atom y_SN_atom ∈ sn_ws := sn_i3 (List.mem_of_getElem? (i := 94) rfl) rfl
theorem mc_SN_pair : Cond.code y_SN_pair prog_1_method_3_code 5 (some .int) ∈ sn_ws := sn_i3 (List.mem_of_getElem? (i := 211) rfl) rfl
theorem mi_SN_pair : Cond.instanceMethod y_SN_pair ∈ sn_ws := sn_i3 (List.mem_of_getElem? (i := 209) rfl) rfl
theorem ms_SN_pair : Cond.selects "SwitchedNets" y_SN_pair y_SN_pair ∈ sn_ws := sn_i3 (List.mem_of_getElem? (i := 210) rfl) rfl
theorem mc_SN_dual : Cond.code y_SN_dual prog_1_method_4_code 2 (some .int) ∈ sn_ws := sn_i3 (List.mem_of_getElem? (i := 219) rfl) rfl
theorem mi_SN_dual : Cond.instanceMethod y_SN_dual ∈ sn_ws := sn_i3 (List.mem_of_getElem? (i := 217) rfl) rfl
theorem ms_SN_dual : Cond.selects "SwitchedNets" y_SN_dual y_SN_dual ∈ sn_ws := sn_i3 (List.mem_of_getElem? (i := 218) rfl) rfl
theorem mc_SN_formula : Cond.code y_SN_formula prog_1_method_5_code 3 (some .int) ∈ sn_ws := sn_i2 (List.mem_of_getElem? (i := 64) rfl) rfl
theorem mi_SN_formula : Cond.instanceMethod y_SN_formula ∈ sn_ws := sn_i2 (List.mem_of_getElem? (i := 62) rfl) rfl
theorem ms_SN_formula : Cond.selects "SwitchedNets" y_SN_formula y_SN_formula ∈ sn_ws := sn_i2 (List.mem_of_getElem? (i := 63) rfl) rfl
theorem mc_SN_clear : Cond.code y_SN_clear prog_1_method_6_code 2 (some .int) ∈ sn_ws := sn_i2 (List.mem_of_getElem? (i := 72) rfl) rfl
theorem mi_SN_clear : Cond.instanceMethod y_SN_clear ∈ sn_ws := sn_i2 (List.mem_of_getElem? (i := 70) rfl) rfl
theorem ms_SN_clear : Cond.selects "SwitchedNets" y_SN_clear y_SN_clear ∈ sn_ws := sn_i2 (List.mem_of_getElem? (i := 71) rfl) rfl
theorem mc_SN_axiom : Cond.code y_SN_axiom prog_1_method_7_code 2 (some .int) ∈ sn_ws := sn_i4 (List.mem_of_getElem? (i := 8) rfl) rfl
theorem mi_SN_axiom : Cond.instanceMethod y_SN_axiom ∈ sn_ws := sn_i4 (List.mem_of_getElem? (i := 6) rfl) rfl
theorem ms_SN_axiom : Cond.selects "SwitchedNets" y_SN_axiom y_SN_axiom ∈ sn_ws := sn_i4 (List.mem_of_getElem? (i := 7) rfl) rfl
theorem mc_SN_link : Cond.code y_SN_link prog_1_method_8_code 7 (some .int) ∈ sn_ws := sn_i4 (List.mem_of_getElem? (i := 21) rfl) rfl
theorem mi_SN_link : Cond.instanceMethod y_SN_link ∈ sn_ws := sn_i4 (List.mem_of_getElem? (i := 19) rfl) rfl
theorem ms_SN_link : Cond.selects "SwitchedNets" y_SN_link y_SN_link ∈ sn_ws := sn_i4 (List.mem_of_getElem? (i := 20) rfl) rfl
theorem mc_SN_cut : Cond.code y_SN_cut prog_1_method_9_code 3 (some .int) ∈ sn_ws := sn_i4 (List.mem_of_getElem? (i := 31) rfl) rfl
theorem mi_SN_cut : Cond.instanceMethod y_SN_cut ∈ sn_ws := sn_i4 (List.mem_of_getElem? (i := 29) rfl) rfl
theorem ms_SN_cut : Cond.selects "SwitchedNets" y_SN_cut y_SN_cut ∈ sn_ws := sn_i4 (List.mem_of_getElem? (i := 30) rfl) rfl
theorem mc_SN_conclude : Cond.code y_SN_conclude prog_1_method_10_code 2 (some .int) ∈ sn_ws := sn_i2 (List.mem_of_getElem? (i := 80) rfl) rfl
theorem mi_SN_conclude : Cond.instanceMethod y_SN_conclude ∈ sn_ws := sn_i2 (List.mem_of_getElem? (i := 78) rfl) rfl
theorem ms_SN_conclude : Cond.selects "SwitchedNets" y_SN_conclude y_SN_conclude ∈ sn_ws := sn_i2 (List.mem_of_getElem? (i := 79) rfl) rfl
theorem mc_SN_look : Cond.code y_SN_look prog_1_method_11_code 3 (some .int) ∈ sn_ws := sn_i2 (List.mem_of_getElem? (i := 96) rfl) rfl
theorem mi_SN_look : Cond.instanceMethod y_SN_look ∈ sn_ws := sn_i2 (List.mem_of_getElem? (i := 94) rfl) rfl
theorem ms_SN_look : Cond.selects "SwitchedNets" y_SN_look y_SN_look ∈ sn_ws := sn_i2 (List.mem_of_getElem? (i := 95) rfl) rfl
theorem mc_SN_type : Cond.code y_SN_type prog_1_method_12_code 2 (some .int) ∈ sn_ws := sn_i2 (List.mem_of_getElem? (i := 104) rfl) rfl
theorem mi_SN_type : Cond.instanceMethod y_SN_type ∈ sn_ws := sn_i2 (List.mem_of_getElem? (i := 102) rfl) rfl
theorem ms_SN_type : Cond.selects "SwitchedNets" y_SN_type y_SN_type ∈ sn_ws := sn_i2 (List.mem_of_getElem? (i := 103) rfl) rfl
theorem mc_SN_conclusion : Cond.code y_SN_conclusion prog_1_method_13_code 2 (some .int) ∈ sn_ws := sn_i2 (List.mem_of_getElem? (i := 109) rfl) rfl
theorem mi_SN_conclusion : Cond.instanceMethod y_SN_conclusion ∈ sn_ws := sn_i2 (List.mem_of_getElem? (i := 107) rfl) rfl
theorem ms_SN_conclusion : Cond.selects "SwitchedNets" y_SN_conclusion y_SN_conclusion ∈ sn_ws := sn_i2 (List.mem_of_getElem? (i := 108) rfl) rfl
theorem mc_SN_links : Cond.code y_SN_links prog_1_method_14_code 1 (some .int) ∈ sn_ws := sn_i2 (List.mem_of_getElem? (i := 113) rfl) rfl
theorem mi_SN_links : Cond.instanceMethod y_SN_links ∈ sn_ws := sn_i2 (List.mem_of_getElem? (i := 111) rfl) rfl
theorem ms_SN_links : Cond.selects "SwitchedNets" y_SN_links y_SN_links ∈ sn_ws := sn_i2 (List.mem_of_getElem? (i := 112) rfl) rfl
theorem mc_SN_judge : Cond.code y_SN_judge prog_1_method_15_code 1 (some .int) ∈ sn_ws := sn_i2 (List.mem_of_getElem? (i := 117) rfl) rfl
theorem mi_SN_judge : Cond.instanceMethod y_SN_judge ∈ sn_ws := sn_i2 (List.mem_of_getElem? (i := 115) rfl) rfl
theorem ms_SN_judge : Cond.selects "SwitchedNets" y_SN_judge y_SN_judge ∈ sn_ws := sn_i2 (List.mem_of_getElem? (i := 116) rfl) rfl
theorem mc_SN_fault : Cond.code y_SN_fault prog_1_method_16_code 1 (some .int) ∈ sn_ws := sn_i2 (List.mem_of_getElem? (i := 151) rfl) rfl
theorem mi_SN_fault : Cond.instanceMethod y_SN_fault ∈ sn_ws := sn_i2 (List.mem_of_getElem? (i := 149) rfl) rfl
theorem ms_SN_fault : Cond.selects "SwitchedNets" y_SN_fault y_SN_fault ∈ sn_ws := sn_i2 (List.mem_of_getElem? (i := 150) rfl) rfl
theorem mc_SN_cuts : Cond.code y_SN_cuts prog_1_method_17_code 1 (some .int) ∈ sn_ws := sn_i2 (List.mem_of_getElem? (i := 155) rfl) rfl
theorem mi_SN_cuts : Cond.instanceMethod y_SN_cuts ∈ sn_ws := sn_i2 (List.mem_of_getElem? (i := 153) rfl) rfl
theorem ms_SN_cuts : Cond.selects "SwitchedNets" y_SN_cuts y_SN_cuts ∈ sn_ws := sn_i2 (List.mem_of_getElem? (i := 154) rfl) rfl
theorem mc_SN_reduce : Cond.code y_SN_reduce prog_1_method_18_code 3 (some .boolean) ∈ sn_ws := sn_i2 (List.mem_of_getElem? (i := 159) rfl) rfl
theorem mi_SN_reduce : Cond.instanceMethod y_SN_reduce ∈ sn_ws := sn_i2 (List.mem_of_getElem? (i := 157) rfl) rfl
theorem ms_SN_reduce : Cond.selects "SwitchedNets" y_SN_reduce y_SN_reduce ∈ sn_ws := sn_i2 (List.mem_of_getElem? (i := 158) rfl) rfl
theorem mc_SN_normalise : Cond.code y_SN_normalise prog_1_method_19_code 3 (some .int) ∈ sn_ws := sn_i2 (List.mem_of_getElem? (i := 199) rfl) rfl
theorem mi_SN_normalise : Cond.instanceMethod y_SN_normalise ∈ sn_ws := sn_i2 (List.mem_of_getElem? (i := 197) rfl) rfl
theorem ms_SN_normalise : Cond.selects "SwitchedNets" y_SN_normalise y_SN_normalise ∈ sn_ws := sn_i2 (List.mem_of_getElem? (i := 198) rfl) rfl
theorem mc_SN_keep : Cond.code y_SN_keep prog_1_method_20_code 1 none ∈ sn_ws := sn_i2 (List.mem_of_getElem? (i := 208) rfl) rfl
theorem mi_SN_keep : Cond.instanceMethod y_SN_keep ∈ sn_ws := sn_i2 (List.mem_of_getElem? (i := 206) rfl) rfl
theorem ms_SN_keep : Cond.selects "SwitchedNets" y_SN_keep y_SN_keep ∈ sn_ws := sn_i2 (List.mem_of_getElem? (i := 207) rfl) rfl
theorem mc_SN_same : Cond.code y_SN_same prog_1_method_21_code 1 (some .boolean) ∈ sn_ws := sn_i2 (List.mem_of_getElem? (i := 212) rfl) rfl
theorem mi_SN_same : Cond.instanceMethod y_SN_same ∈ sn_ws := sn_i2 (List.mem_of_getElem? (i := 210) rfl) rfl
theorem ms_SN_same : Cond.selects "SwitchedNets" y_SN_same y_SN_same ∈ sn_ws := sn_i2 (List.mem_of_getElem? (i := 211) rfl) rfl
theorem mc_SN_rule : Cond.code y_SN_rule prog_1_method_22_code 2 (some .int) ∈ sn_ws := sn_i2 (List.mem_of_getElem? (i := 231) rfl) rfl
theorem mi_SN_rule : Cond.instanceMethod y_SN_rule ∈ sn_ws := sn_i2 (List.mem_of_getElem? (i := 229) rfl) rfl
theorem ms_SN_rule : Cond.selects "SwitchedNets" y_SN_rule y_SN_rule ∈ sn_ws := sn_i2 (List.mem_of_getElem? (i := 230) rfl) rfl
theorem mc_SN_linkings : Cond.code y_SN_linkings prog_1_method_23_code 2 (some .int) ∈ sn_ws := sn_i3 (List.mem_of_getElem? (i := 28) rfl) rfl
theorem mi_SN_linkings : Cond.instanceMethod y_SN_linkings ∈ sn_ws := sn_i3 (List.mem_of_getElem? (i := 26) rfl) rfl
theorem ms_SN_linkings : Cond.selects "SwitchedNets" y_SN_linkings y_SN_linkings ∈ sn_ws := sn_i3 (List.mem_of_getElem? (i := 27) rfl) rfl
theorem mc_SN_partner : Cond.code y_SN_partner prog_1_method_24_code 4 (some .int) ∈ sn_ws := sn_i3 (List.mem_of_getElem? (i := 74) rfl) rfl
theorem mi_SN_partner : Cond.instanceMethod y_SN_partner ∈ sn_ws := sn_i3 (List.mem_of_getElem? (i := 72) rfl) rfl
theorem ms_SN_partner : Cond.selects "SwitchedNets" y_SN_partner y_SN_partner ∈ sn_ws := sn_i3 (List.mem_of_getElem? (i := 73) rfl) rfl
theorem mc_SN_build : Cond.code y_SN_build prog_1_method_25_code 3 (some .int) ∈ sn_ws := sn_i3 (List.mem_of_getElem? (i := 82) rfl) rfl
theorem mi_SN_build : Cond.instanceMethod y_SN_build ∈ sn_ws := sn_i3 (List.mem_of_getElem? (i := 80) rfl) rfl
theorem ms_SN_build : Cond.selects "SwitchedNets" y_SN_build y_SN_build ∈ sn_ws := sn_i3 (List.mem_of_getElem? (i := 81) rfl) rfl
def y_MD_thrown : MethodName := ⟨"SwitchedNetsModel", "thrown", "()I"⟩
def y_MD_isFormula : MethodName := ⟨"SwitchedNetsModel", "isFormula", "(I)Z"⟩
def y_MD_find : MethodName := ⟨"SwitchedNetsModel", "find", "(III)I"⟩
def y_MD_make : MethodName := ⟨"SwitchedNetsModel", "make", "(III)I"⟩
def y_MD_findDuals : MethodName := ⟨"SwitchedNetsModel", "findDuals", "()V"⟩
def y_MD_makeDual : MethodName := ⟨"SwitchedNetsModel", "makeDual", "(I)I"⟩
def y_MD_atom : MethodName := ⟨"SwitchedNetsModel", "atom", "(IZ)I"⟩
def y_MD_pair : MethodName := ⟨"SwitchedNetsModel", "pair", "(IIZ)I"⟩
def y_MD_dual : MethodName := ⟨"SwitchedNetsModel", "dual", "(I)I"⟩
def y_MD_formula : MethodName := ⟨"SwitchedNetsModel", "formula", "(II)I"⟩
def y_MD_empty : MethodName := ⟨"SwitchedNetsModel", "empty", "(I)V"⟩
def y_MD_copy : MethodName := ⟨"SwitchedNetsModel", "copy", "(II)V"⟩
def y_MD_count : MethodName := ⟨"SwitchedNetsModel", "count", "(II)I"⟩
def y_MD_isEdge : MethodName := ⟨"SwitchedNetsModel", "isEdge", "(II)Z"⟩
def y_MD_isFree : MethodName := ⟨"SwitchedNetsModel", "isFree", "(II)Z"⟩
def y_MD_addEdge : MethodName := ⟨"SwitchedNetsModel", "addEdge", "(III)I"⟩
def y_MD_addLink : MethodName := ⟨"SwitchedNetsModel", "addLink", "(IIII)I"⟩
def y_MD_addAxiom : MethodName := ⟨"SwitchedNetsModel", "addAxiom", "(III)I"⟩
def y_MD_addPair : MethodName := ⟨"SwitchedNetsModel", "addPair", "(IIIII)I"⟩
def y_MD_name : MethodName := ⟨"SwitchedNetsModel", "name", "(II)V"⟩
def y_MD_clear : MethodName := ⟨"SwitchedNetsModel", "clear", "()I"⟩
def y_MD_hasRoom : MethodName := ⟨"SwitchedNetsModel", "hasRoom", "(I)Z"⟩
def y_MD_axiom : MethodName := ⟨"SwitchedNetsModel", "axiom", "(I)I"⟩
def y_MD_link : MethodName := ⟨"SwitchedNetsModel", "link", "(IIZ)I"⟩
def y_MD_cut : MethodName := ⟨"SwitchedNetsModel", "cut", "(II)I"⟩
def y_MD_conclude : MethodName := ⟨"SwitchedNetsModel", "conclude", "(I)I"⟩
def y_MD_isLink : MethodName := ⟨"SwitchedNetsModel", "isLink", "(I)Z"⟩
def y_MD_look : MethodName := ⟨"SwitchedNetsModel", "look", "(II)I"⟩
def y_MD_type : MethodName := ⟨"SwitchedNetsModel", "type", "(I)I"⟩
def y_MD_conclusion : MethodName := ⟨"SwitchedNetsModel", "conclusion", "(I)I"⟩
def y_MD_links : MethodName := ⟨"SwitchedNetsModel", "links", "()I"⟩
def y_MD_root : MethodName := ⟨"SwitchedNetsModel", "root", "(I)I"⟩
def y_MD_isJoined : MethodName := ⟨"SwitchedNetsModel", "isJoined", "(III)Z"⟩
def y_MD_graph : MethodName := ⟨"SwitchedNetsModel", "graph", "(II)I"⟩
def y_MD_isComplete : MethodName := ⟨"SwitchedNetsModel", "isComplete", "(I)Z"⟩
def y_MD_judgeAll : MethodName := ⟨"SwitchedNetsModel", "judgeAll", "(I)V"⟩
def y_MD_isNet : MethodName := ⟨"SwitchedNetsModel", "isNet", "(I)Z"⟩
def y_MD_judge : MethodName := ⟨"SwitchedNetsModel", "judge", "()I"⟩
def y_MD_fault : MethodName := ⟨"SwitchedNetsModel", "fault", "()I"⟩
def y_MD_cuts : MethodName := ⟨"SwitchedNetsModel", "cuts", "()I"⟩
def y_MD_cutAt : MethodName := ⟨"SwitchedNetsModel", "cutAt", "(I)I"⟩
def y_MD_drop : MethodName := ⟨"SwitchedNetsModel", "drop", "(I)V"⟩
def y_MD_dropEdge : MethodName := ⟨"SwitchedNetsModel", "dropEdge", "(I)V"⟩
def y_MD_slide : MethodName := ⟨"SwitchedNetsModel", "slide", "(III)Z"⟩
def y_MD_reduceAt : MethodName := ⟨"SwitchedNetsModel", "reduceAt", "(I)Z"⟩
def y_MD_reduce : MethodName := ⟨"SwitchedNetsModel", "reduce", "(I)Z"⟩
def y_MD_normalise : MethodName := ⟨"SwitchedNetsModel", "normalise", "(I)I"⟩
def y_MD_keep : MethodName := ⟨"SwitchedNetsModel", "keep", "()V"⟩
def y_MD_meet : MethodName := ⟨"SwitchedNetsModel", "meet", "(II)Z"⟩
def y_MD_follow : MethodName := ⟨"SwitchedNetsModel", "follow", "(I)Z"⟩
def y_MD_same : MethodName := ⟨"SwitchedNetsModel", "same", "()Z"⟩
def y_MD_isIn : MethodName := ⟨"SwitchedNetsModel", "isIn", "(JI)Z"⟩
def y_MD_isLast : MethodName := ⟨"SwitchedNetsModel", "isLast", "(JI)Z"⟩
def y_MD_joined : MethodName := ⟨"SwitchedNetsModel", "joined", "(JI)J"⟩
def y_MD_firstOf : MethodName := ⟨"SwitchedNetsModel", "firstOf", "(J)I"⟩
def y_MD_prove : MethodName := ⟨"SwitchedNetsModel", "prove", "()I"⟩
def y_MD_rule : MethodName := ⟨"SwitchedNetsModel", "rule", "(I)I"⟩
def y_MD_listAtoms : MethodName := ⟨"SwitchedNetsModel", "listAtoms", "(I)V"⟩
def y_MD_fit : MethodName := ⟨"SwitchedNetsModel", "fit", "(II)Z"⟩
def y_MD_lay : MethodName := ⟨"SwitchedNetsModel", "lay", "(II)V"⟩
def y_MD_edgeOf : MethodName := ⟨"SwitchedNetsModel", "edgeOf", "(II)I"⟩
def y_MD_raise : MethodName := ⟨"SwitchedNetsModel", "raise", "(I)Z"⟩
def y_MD_fill : MethodName := ⟨"SwitchedNetsModel", "fill", "()Z"⟩
def y_MD_goTo : MethodName := ⟨"SwitchedNetsModel", "goTo", "(II)I"⟩
def y_MD_linkings : MethodName := ⟨"SwitchedNetsModel", "linkings", "(I)I"⟩
def y_MD_isLinking : MethodName := ⟨"SwitchedNetsModel", "isLinking", "(II)Z"⟩
def y_MD_partner : MethodName := ⟨"SwitchedNetsModel", "partner", "(III)I"⟩
def y_MD_build : MethodName := ⟨"SwitchedNetsModel", "build", "(II)I"⟩
theorem mz_MD : Cond.initialized "SwitchedNetsModel" ∈ sn_ws := sn_i1 (List.mem_of_getElem? (i := 8) rfl) rfl
theorem mc_MD_thrown : Cond.code y_MD_thrown prog_9_method_2_code 1 (some .int) ∈ sn_ws := sn_i4 (List.mem_of_getElem? (i := 132) rfl) rfl
theorem mi_MD_thrown : Cond.instanceMethod y_MD_thrown ∈ sn_ws := sn_i4 (List.mem_of_getElem? (i := 130) rfl) rfl
theorem ms_MD_thrown : Cond.selects "SwitchedNetsModel" y_MD_thrown y_MD_thrown ∈ sn_ws := sn_i4 (List.mem_of_getElem? (i := 131) rfl) rfl
theorem mc_MD_isFormula : Cond.code y_MD_isFormula prog_9_method_3_code 2 (some .boolean) ∈ sn_ws := sn_i4 (List.mem_of_getElem? (i := 152) rfl) rfl
theorem mi_MD_isFormula : Cond.instanceMethod y_MD_isFormula ∈ sn_ws := sn_i4 (List.mem_of_getElem? (i := 151) rfl) rfl
theorem ms_MD_isFormula : Cond.selects "SwitchedNetsModel" y_MD_isFormula y_MD_isFormula ∈ sn_ws := sn_i0 (List.mem_of_getElem? (i := 30) rfl) rfl
theorem mc_MD_find : Cond.code y_MD_find prog_9_method_4_code 6 (some .int) ∈ sn_ws := sn_i4 (List.mem_of_getElem? (i := 144) rfl) rfl
theorem mi_MD_find : Cond.instanceMethod y_MD_find ∈ sn_ws := sn_i4 (List.mem_of_getElem? (i := 143) rfl) rfl
theorem ms_MD_find : Cond.selects "SwitchedNetsModel" y_MD_find y_MD_find ∈ sn_ws := sn_i0 (List.mem_of_getElem? (i := 29) rfl) rfl
theorem mc_MD_make : Cond.code y_MD_make prog_9_method_5_code 5 (some .int) ∈ sn_ws := sn_i4 (List.mem_of_getElem? (i := 140) rfl) rfl
theorem mi_MD_make : Cond.instanceMethod y_MD_make ∈ sn_ws := sn_i4 (List.mem_of_getElem? (i := 139) rfl) rfl
theorem ms_MD_make : Cond.selects "SwitchedNetsModel" y_MD_make y_MD_make ∈ sn_ws := sn_i0 (List.mem_of_getElem? (i := 28) rfl) rfl
theorem mc_MD_findDuals : Cond.code y_MD_findDuals prog_9_method_6_code 4 none ∈ sn_ws := sn_i4 (List.mem_of_getElem? (i := 164) rfl) rfl
theorem mi_MD_findDuals : Cond.instanceMethod y_MD_findDuals ∈ sn_ws := sn_i4 (List.mem_of_getElem? (i := 163) rfl) rfl
theorem ms_MD_findDuals : Cond.selects "SwitchedNetsModel" y_MD_findDuals y_MD_findDuals ∈ sn_ws := sn_i0 (List.mem_of_getElem? (i := 32) rfl) rfl
theorem mc_MD_makeDual : Cond.code y_MD_makeDual prog_9_method_7_code 6 (some .int) ∈ sn_ws := sn_i4 (List.mem_of_getElem? (i := 160) rfl) rfl
theorem mi_MD_makeDual : Cond.instanceMethod y_MD_makeDual ∈ sn_ws := sn_i4 (List.mem_of_getElem? (i := 159) rfl) rfl
theorem ms_MD_makeDual : Cond.selects "SwitchedNetsModel" y_MD_makeDual y_MD_makeDual ∈ sn_ws := sn_i0 (List.mem_of_getElem? (i := 31) rfl) rfl
theorem mc_MD_atom : Cond.code y_MD_atom prog_9_method_8_code 4 (some .int) ∈ sn_ws := sn_i4 (List.mem_of_getElem? (i := 136) rfl) rfl
theorem mi_MD_atom : Cond.instanceMethod y_MD_atom ∈ sn_ws := sn_i4 (List.mem_of_getElem? (i := 134) rfl) rfl
theorem ms_MD_atom : Cond.selects "SwitchedNetsModel" y_MD_atom y_MD_atom ∈ sn_ws := sn_i4 (List.mem_of_getElem? (i := 135) rfl) rfl
theorem mc_MD_pair : Cond.code y_MD_pair prog_9_method_9_code 5 (some .int) ∈ sn_ws := sn_i4 (List.mem_of_getElem? (i := 148) rfl) rfl
theorem mi_MD_pair : Cond.instanceMethod y_MD_pair ∈ sn_ws := sn_i4 (List.mem_of_getElem? (i := 146) rfl) rfl
theorem ms_MD_pair : Cond.selects "SwitchedNetsModel" y_MD_pair y_MD_pair ∈ sn_ws := sn_i4 (List.mem_of_getElem? (i := 147) rfl) rfl
theorem mc_MD_dual : Cond.code y_MD_dual prog_9_method_10_code 3 (some .int) ∈ sn_ws := sn_i4 (List.mem_of_getElem? (i := 156) rfl) rfl
theorem mi_MD_dual : Cond.instanceMethod y_MD_dual ∈ sn_ws := sn_i4 (List.mem_of_getElem? (i := 154) rfl) rfl
theorem ms_MD_dual : Cond.selects "SwitchedNetsModel" y_MD_dual y_MD_dual ∈ sn_ws := sn_i4 (List.mem_of_getElem? (i := 155) rfl) rfl
theorem mc_MD_formula : Cond.code y_MD_formula prog_9_method_11_code 3 (some .int) ∈ sn_ws := sn_i4 (List.mem_of_getElem? (i := 168) rfl) rfl
theorem mi_MD_formula : Cond.instanceMethod y_MD_formula ∈ sn_ws := sn_i4 (List.mem_of_getElem? (i := 166) rfl) rfl
theorem ms_MD_formula : Cond.selects "SwitchedNetsModel" y_MD_formula y_MD_formula ∈ sn_ws := sn_i4 (List.mem_of_getElem? (i := 167) rfl) rfl
theorem mc_MD_empty : Cond.code y_MD_empty prog_9_method_12_code 2 none ∈ sn_ws := sn_i4 (List.mem_of_getElem? (i := 180) rfl) rfl
theorem mi_MD_empty : Cond.instanceMethod y_MD_empty ∈ sn_ws := sn_i4 (List.mem_of_getElem? (i := 179) rfl) rfl
theorem ms_MD_empty : Cond.selects "SwitchedNetsModel" y_MD_empty y_MD_empty ∈ sn_ws := sn_i0 (List.mem_of_getElem? (i := 34) rfl) rfl
theorem mc_MD_copy : Cond.code y_MD_copy prog_9_method_13_code 4 none ∈ sn_ws := sn_i5 (List.mem_of_getElem? (i := 76) rfl) rfl
theorem mi_MD_copy : Cond.instanceMethod y_MD_copy ∈ sn_ws := sn_i5 (List.mem_of_getElem? (i := 75) rfl) rfl
theorem ms_MD_copy : Cond.selects "SwitchedNetsModel" y_MD_copy y_MD_copy ∈ sn_ws := sn_i0 (List.mem_of_getElem? (i := 55) rfl) rfl
theorem mc_MD_count : Cond.code y_MD_count prog_9_method_14_code 6 (some .int) ∈ sn_ws := sn_i4 (List.mem_of_getElem? (i := 176) rfl) rfl
theorem mi_MD_count : Cond.instanceMethod y_MD_count ∈ sn_ws := sn_i4 (List.mem_of_getElem? (i := 175) rfl) rfl
theorem ms_MD_count : Cond.selects "SwitchedNetsModel" y_MD_count y_MD_count ∈ sn_ws := sn_i0 (List.mem_of_getElem? (i := 33) rfl) rfl
theorem mc_MD_isEdge : Cond.code y_MD_isEdge prog_9_method_15_code 3 (some .boolean) ∈ sn_ws := sn_i4 (List.mem_of_getElem? (i := 212) rfl) rfl
theorem mi_MD_isEdge : Cond.instanceMethod y_MD_isEdge ∈ sn_ws := sn_i4 (List.mem_of_getElem? (i := 211) rfl) rfl
theorem ms_MD_isEdge : Cond.selects "SwitchedNetsModel" y_MD_isEdge y_MD_isEdge ∈ sn_ws := sn_i0 (List.mem_of_getElem? (i := 40) rfl) rfl
theorem mc_MD_isFree : Cond.code y_MD_isFree prog_9_method_16_code 3 (some .boolean) ∈ sn_ws := sn_i4 (List.mem_of_getElem? (i := 208) rfl) rfl
theorem mi_MD_isFree : Cond.instanceMethod y_MD_isFree ∈ sn_ws := sn_i4 (List.mem_of_getElem? (i := 207) rfl) rfl
theorem ms_MD_isFree : Cond.selects "SwitchedNetsModel" y_MD_isFree y_MD_isFree ∈ sn_ws := sn_i0 (List.mem_of_getElem? (i := 39) rfl) rfl
theorem mc_MD_addEdge : Cond.code y_MD_addEdge prog_9_method_17_code 5 (some .int) ∈ sn_ws := sn_i4 (List.mem_of_getElem? (i := 200) rfl) rfl
theorem mi_MD_addEdge : Cond.instanceMethod y_MD_addEdge ∈ sn_ws := sn_i4 (List.mem_of_getElem? (i := 199) rfl) rfl
theorem ms_MD_addEdge : Cond.selects "SwitchedNetsModel" y_MD_addEdge y_MD_addEdge ∈ sn_ws := sn_i0 (List.mem_of_getElem? (i := 38) rfl) rfl
theorem mc_MD_addLink : Cond.code y_MD_addLink prog_9_method_18_code 6 (some .int) ∈ sn_ws := sn_i4 (List.mem_of_getElem? (i := 196) rfl) rfl
theorem mi_MD_addLink : Cond.instanceMethod y_MD_addLink ∈ sn_ws := sn_i4 (List.mem_of_getElem? (i := 195) rfl) rfl
theorem ms_MD_addLink : Cond.selects "SwitchedNetsModel" y_MD_addLink y_MD_addLink ∈ sn_ws := sn_i0 (List.mem_of_getElem? (i := 37) rfl) rfl
theorem mc_MD_addAxiom : Cond.code y_MD_addAxiom prog_9_method_19_code 5 (some .int) ∈ sn_ws := sn_i4 (List.mem_of_getElem? (i := 192) rfl) rfl
theorem mi_MD_addAxiom : Cond.instanceMethod y_MD_addAxiom ∈ sn_ws := sn_i4 (List.mem_of_getElem? (i := 191) rfl) rfl
theorem ms_MD_addAxiom : Cond.selects "SwitchedNetsModel" y_MD_addAxiom y_MD_addAxiom ∈ sn_ws := sn_i0 (List.mem_of_getElem? (i := 36) rfl) rfl
theorem mc_MD_addPair : Cond.code y_MD_addPair prog_9_method_20_code 7 (some .int) ∈ sn_ws := sn_i4 (List.mem_of_getElem? (i := 216) rfl) rfl
theorem mi_MD_addPair : Cond.instanceMethod y_MD_addPair ∈ sn_ws := sn_i4 (List.mem_of_getElem? (i := 215) rfl) rfl
theorem ms_MD_addPair : Cond.selects "SwitchedNetsModel" y_MD_addPair y_MD_addPair ∈ sn_ws := sn_i0 (List.mem_of_getElem? (i := 41) rfl) rfl
theorem mc_MD_name : Cond.code y_MD_name prog_9_method_21_code 3 none ∈ sn_ws := sn_i4 (List.mem_of_getElem? (i := 228) rfl) rfl
theorem mi_MD_name : Cond.instanceMethod y_MD_name ∈ sn_ws := sn_i4 (List.mem_of_getElem? (i := 227) rfl) rfl
theorem ms_MD_name : Cond.selects "SwitchedNetsModel" y_MD_name y_MD_name ∈ sn_ws := sn_i0 (List.mem_of_getElem? (i := 42) rfl) rfl
theorem mc_MD_clear : Cond.code y_MD_clear prog_9_method_22_code 2 (some .int) ∈ sn_ws := sn_i4 (List.mem_of_getElem? (i := 172) rfl) rfl
theorem mi_MD_clear : Cond.instanceMethod y_MD_clear ∈ sn_ws := sn_i4 (List.mem_of_getElem? (i := 170) rfl) rfl
theorem ms_MD_clear : Cond.selects "SwitchedNetsModel" y_MD_clear y_MD_clear ∈ sn_ws := sn_i4 (List.mem_of_getElem? (i := 171) rfl) rfl
theorem mc_MD_hasRoom : Cond.code y_MD_hasRoom prog_9_method_23_code 2 (some .boolean) ∈ sn_ws := sn_i4 (List.mem_of_getElem? (i := 188) rfl) rfl
theorem mi_MD_hasRoom : Cond.instanceMethod y_MD_hasRoom ∈ sn_ws := sn_i4 (List.mem_of_getElem? (i := 187) rfl) rfl
theorem ms_MD_hasRoom : Cond.selects "SwitchedNetsModel" y_MD_hasRoom y_MD_hasRoom ∈ sn_ws := sn_i0 (List.mem_of_getElem? (i := 35) rfl) rfl
theorem mc_MD_axiom : Cond.code y_MD_axiom prog_9_method_24_code 3 (some .int) ∈ sn_ws := sn_i4 (List.mem_of_getElem? (i := 184) rfl) rfl
theorem mi_MD_axiom : Cond.instanceMethod y_MD_axiom ∈ sn_ws := sn_i4 (List.mem_of_getElem? (i := 182) rfl) rfl
theorem ms_MD_axiom : Cond.selects "SwitchedNetsModel" y_MD_axiom y_MD_axiom ∈ sn_ws := sn_i4 (List.mem_of_getElem? (i := 183) rfl) rfl
theorem mc_MD_link : Cond.code y_MD_link prog_9_method_25_code 5 (some .int) ∈ sn_ws := sn_i4 (List.mem_of_getElem? (i := 204) rfl) rfl
theorem mi_MD_link : Cond.instanceMethod y_MD_link ∈ sn_ws := sn_i4 (List.mem_of_getElem? (i := 202) rfl) rfl
theorem ms_MD_link : Cond.selects "SwitchedNetsModel" y_MD_link y_MD_link ∈ sn_ws := sn_i4 (List.mem_of_getElem? (i := 203) rfl) rfl
theorem mc_MD_cut : Cond.code y_MD_cut prog_9_method_26_code 4 (some .int) ∈ sn_ws := sn_i4 (List.mem_of_getElem? (i := 220) rfl) rfl
theorem mi_MD_cut : Cond.instanceMethod y_MD_cut ∈ sn_ws := sn_i4 (List.mem_of_getElem? (i := 218) rfl) rfl
theorem ms_MD_cut : Cond.selects "SwitchedNetsModel" y_MD_cut y_MD_cut ∈ sn_ws := sn_i4 (List.mem_of_getElem? (i := 219) rfl) rfl
theorem mc_MD_conclude : Cond.code y_MD_conclude prog_9_method_27_code 2 (some .int) ∈ sn_ws := sn_i4 (List.mem_of_getElem? (i := 224) rfl) rfl
theorem mi_MD_conclude : Cond.instanceMethod y_MD_conclude ∈ sn_ws := sn_i4 (List.mem_of_getElem? (i := 222) rfl) rfl
theorem ms_MD_conclude : Cond.selects "SwitchedNetsModel" y_MD_conclude y_MD_conclude ∈ sn_ws := sn_i4 (List.mem_of_getElem? (i := 223) rfl) rfl
theorem mc_MD_isLink : Cond.code y_MD_isLink prog_9_method_28_code 2 (some .boolean) ∈ sn_ws := sn_i4 (List.mem_of_getElem? (i := 236) rfl) rfl
theorem mi_MD_isLink : Cond.instanceMethod y_MD_isLink ∈ sn_ws := sn_i4 (List.mem_of_getElem? (i := 235) rfl) rfl
theorem ms_MD_isLink : Cond.selects "SwitchedNetsModel" y_MD_isLink y_MD_isLink ∈ sn_ws := sn_i0 (List.mem_of_getElem? (i := 43) rfl) rfl
theorem mc_MD_look : Cond.code y_MD_look prog_9_method_29_code 3 (some .int) ∈ sn_ws := sn_i4 (List.mem_of_getElem? (i := 232) rfl) rfl
theorem mi_MD_look : Cond.instanceMethod y_MD_look ∈ sn_ws := sn_i4 (List.mem_of_getElem? (i := 230) rfl) rfl
theorem ms_MD_look : Cond.selects "SwitchedNetsModel" y_MD_look y_MD_look ∈ sn_ws := sn_i4 (List.mem_of_getElem? (i := 231) rfl) rfl
theorem mc_MD_type : Cond.code y_MD_type prog_9_method_30_code 2 (some .int) ∈ sn_ws := sn_i5 (List.mem_of_getElem? (i := 0) rfl) rfl
theorem mi_MD_type : Cond.instanceMethod y_MD_type ∈ sn_ws := sn_i4 (List.mem_of_getElem? (i := 238) rfl) rfl
theorem ms_MD_type : Cond.selects "SwitchedNetsModel" y_MD_type y_MD_type ∈ sn_ws := sn_i4 (List.mem_of_getElem? (i := 239) rfl) rfl
theorem mc_MD_conclusion : Cond.code y_MD_conclusion prog_9_method_31_code 2 (some .int) ∈ sn_ws := sn_i5 (List.mem_of_getElem? (i := 4) rfl) rfl
theorem mi_MD_conclusion : Cond.instanceMethod y_MD_conclusion ∈ sn_ws := sn_i5 (List.mem_of_getElem? (i := 2) rfl) rfl
theorem ms_MD_conclusion : Cond.selects "SwitchedNetsModel" y_MD_conclusion y_MD_conclusion ∈ sn_ws := sn_i5 (List.mem_of_getElem? (i := 3) rfl) rfl
theorem mc_MD_links : Cond.code y_MD_links prog_9_method_32_code 1 (some .int) ∈ sn_ws := sn_i5 (List.mem_of_getElem? (i := 8) rfl) rfl
theorem mi_MD_links : Cond.instanceMethod y_MD_links ∈ sn_ws := sn_i5 (List.mem_of_getElem? (i := 6) rfl) rfl
theorem ms_MD_links : Cond.selects "SwitchedNetsModel" y_MD_links y_MD_links ∈ sn_ws := sn_i5 (List.mem_of_getElem? (i := 7) rfl) rfl
theorem mc_MD_root : Cond.code y_MD_root prog_9_method_33_code 3 (some .int) ∈ sn_ws := sn_i5 (List.mem_of_getElem? (i := 32) rfl) rfl
theorem mi_MD_root : Cond.instanceMethod y_MD_root ∈ sn_ws := sn_i5 (List.mem_of_getElem? (i := 31) rfl) rfl
theorem ms_MD_root : Cond.selects "SwitchedNetsModel" y_MD_root y_MD_root ∈ sn_ws := sn_i0 (List.mem_of_getElem? (i := 48) rfl) rfl
theorem mc_MD_isJoined : Cond.code y_MD_isJoined prog_9_method_34_code 7 (some .boolean) ∈ sn_ws := sn_i5 (List.mem_of_getElem? (i := 28) rfl) rfl
theorem mi_MD_isJoined : Cond.instanceMethod y_MD_isJoined ∈ sn_ws := sn_i5 (List.mem_of_getElem? (i := 27) rfl) rfl
theorem ms_MD_isJoined : Cond.selects "SwitchedNetsModel" y_MD_isJoined y_MD_isJoined ∈ sn_ws := sn_i0 (List.mem_of_getElem? (i := 47) rfl) rfl
theorem mc_MD_graph : Cond.code y_MD_graph prog_9_method_35_code 8 (some .int) ∈ sn_ws := sn_i5 (List.mem_of_getElem? (i := 24) rfl) rfl
theorem mi_MD_graph : Cond.instanceMethod y_MD_graph ∈ sn_ws := sn_i5 (List.mem_of_getElem? (i := 23) rfl) rfl
theorem ms_MD_graph : Cond.selects "SwitchedNetsModel" y_MD_graph y_MD_graph ∈ sn_ws := sn_i0 (List.mem_of_getElem? (i := 46) rfl) rfl
theorem mc_MD_isComplete : Cond.code y_MD_isComplete prog_9_method_36_code 4 (some .boolean) ∈ sn_ws := sn_i5 (List.mem_of_getElem? (i := 20) rfl) rfl
theorem mi_MD_isComplete : Cond.instanceMethod y_MD_isComplete ∈ sn_ws := sn_i5 (List.mem_of_getElem? (i := 19) rfl) rfl
theorem ms_MD_isComplete : Cond.selects "SwitchedNetsModel" y_MD_isComplete y_MD_isComplete ∈ sn_ws := sn_i0 (List.mem_of_getElem? (i := 45) rfl) rfl
theorem mc_MD_judgeAll : Cond.code y_MD_judgeAll prog_9_method_37_code 7 none ∈ sn_ws := sn_i5 (List.mem_of_getElem? (i := 16) rfl) rfl
theorem mi_MD_judgeAll : Cond.instanceMethod y_MD_judgeAll ∈ sn_ws := sn_i5 (List.mem_of_getElem? (i := 15) rfl) rfl
theorem ms_MD_judgeAll : Cond.selects "SwitchedNetsModel" y_MD_judgeAll y_MD_judgeAll ∈ sn_ws := sn_i0 (List.mem_of_getElem? (i := 44) rfl) rfl
theorem mc_MD_isNet : Cond.code y_MD_isNet prog_9_method_38_code 2 (some .boolean) ∈ sn_ws := sn_i5 (List.mem_of_getElem? (i := 72) rfl) rfl
theorem mi_MD_isNet : Cond.instanceMethod y_MD_isNet ∈ sn_ws := sn_i5 (List.mem_of_getElem? (i := 71) rfl) rfl
theorem ms_MD_isNet : Cond.selects "SwitchedNetsModel" y_MD_isNet y_MD_isNet ∈ sn_ws := sn_i0 (List.mem_of_getElem? (i := 54) rfl) rfl
theorem mc_MD_judge : Cond.code y_MD_judge prog_9_method_39_code 1 (some .int) ∈ sn_ws := sn_i5 (List.mem_of_getElem? (i := 12) rfl) rfl
theorem mi_MD_judge : Cond.instanceMethod y_MD_judge ∈ sn_ws := sn_i5 (List.mem_of_getElem? (i := 10) rfl) rfl
theorem ms_MD_judge : Cond.selects "SwitchedNetsModel" y_MD_judge y_MD_judge ∈ sn_ws := sn_i5 (List.mem_of_getElem? (i := 11) rfl) rfl
theorem mc_MD_fault : Cond.code y_MD_fault prog_9_method_40_code 1 (some .int) ∈ sn_ws := sn_i5 (List.mem_of_getElem? (i := 36) rfl) rfl
theorem mi_MD_fault : Cond.instanceMethod y_MD_fault ∈ sn_ws := sn_i5 (List.mem_of_getElem? (i := 34) rfl) rfl
theorem ms_MD_fault : Cond.selects "SwitchedNetsModel" y_MD_fault y_MD_fault ∈ sn_ws := sn_i5 (List.mem_of_getElem? (i := 35) rfl) rfl
theorem mc_MD_cuts : Cond.code y_MD_cuts prog_9_method_41_code 1 (some .int) ∈ sn_ws := sn_i5 (List.mem_of_getElem? (i := 40) rfl) rfl
theorem mi_MD_cuts : Cond.instanceMethod y_MD_cuts ∈ sn_ws := sn_i5 (List.mem_of_getElem? (i := 38) rfl) rfl
theorem ms_MD_cuts : Cond.selects "SwitchedNetsModel" y_MD_cuts y_MD_cuts ∈ sn_ws := sn_i5 (List.mem_of_getElem? (i := 39) rfl) rfl
theorem mc_MD_cutAt : Cond.code y_MD_cutAt prog_9_method_42_code 5 (some .int) ∈ sn_ws := sn_i5 (List.mem_of_getElem? (i := 52) rfl) rfl
theorem mi_MD_cutAt : Cond.instanceMethod y_MD_cutAt ∈ sn_ws := sn_i5 (List.mem_of_getElem? (i := 51) rfl) rfl
theorem ms_MD_cutAt : Cond.selects "SwitchedNetsModel" y_MD_cutAt y_MD_cutAt ∈ sn_ws := sn_i0 (List.mem_of_getElem? (i := 50) rfl) rfl
theorem mc_MD_drop : Cond.code y_MD_drop prog_9_method_43_code 2 none ∈ sn_ws := sn_i5 (List.mem_of_getElem? (i := 60) rfl) rfl
theorem mi_MD_drop : Cond.instanceMethod y_MD_drop ∈ sn_ws := sn_i5 (List.mem_of_getElem? (i := 59) rfl) rfl
theorem ms_MD_drop : Cond.selects "SwitchedNetsModel" y_MD_drop y_MD_drop ∈ sn_ws := sn_i0 (List.mem_of_getElem? (i := 52) rfl) rfl
theorem mc_MD_dropEdge : Cond.code y_MD_dropEdge prog_9_method_44_code 2 none ∈ sn_ws := sn_i5 (List.mem_of_getElem? (i := 64) rfl) rfl
theorem mi_MD_dropEdge : Cond.instanceMethod y_MD_dropEdge ∈ sn_ws := sn_i5 (List.mem_of_getElem? (i := 63) rfl) rfl
theorem ms_MD_dropEdge : Cond.selects "SwitchedNetsModel" y_MD_dropEdge y_MD_dropEdge ∈ sn_ws := sn_i0 (List.mem_of_getElem? (i := 53) rfl) rfl
theorem mc_MD_slide : Cond.code y_MD_slide prog_9_method_45_code 7 (some .boolean) ∈ sn_ws := sn_i5 (List.mem_of_getElem? (i := 56) rfl) rfl
theorem mi_MD_slide : Cond.instanceMethod y_MD_slide ∈ sn_ws := sn_i5 (List.mem_of_getElem? (i := 55) rfl) rfl
theorem ms_MD_slide : Cond.selects "SwitchedNetsModel" y_MD_slide y_MD_slide ∈ sn_ws := sn_i0 (List.mem_of_getElem? (i := 51) rfl) rfl
theorem mc_MD_reduceAt : Cond.code y_MD_reduceAt prog_9_method_46_code 7 (some .boolean) ∈ sn_ws := sn_i5 (List.mem_of_getElem? (i := 48) rfl) rfl
theorem mi_MD_reduceAt : Cond.instanceMethod y_MD_reduceAt ∈ sn_ws := sn_i5 (List.mem_of_getElem? (i := 47) rfl) rfl
theorem ms_MD_reduceAt : Cond.selects "SwitchedNetsModel" y_MD_reduceAt y_MD_reduceAt ∈ sn_ws := sn_i0 (List.mem_of_getElem? (i := 49) rfl) rfl
theorem mc_MD_reduce : Cond.code y_MD_reduce prog_9_method_47_code 2 (some .boolean) ∈ sn_ws := sn_i5 (List.mem_of_getElem? (i := 44) rfl) rfl
theorem mi_MD_reduce : Cond.instanceMethod y_MD_reduce ∈ sn_ws := sn_i5 (List.mem_of_getElem? (i := 42) rfl) rfl
theorem ms_MD_reduce : Cond.selects "SwitchedNetsModel" y_MD_reduce y_MD_reduce ∈ sn_ws := sn_i5 (List.mem_of_getElem? (i := 43) rfl) rfl
theorem mc_MD_normalise : Cond.code y_MD_normalise prog_9_method_48_code 3 (some .int) ∈ sn_ws := sn_i5 (List.mem_of_getElem? (i := 68) rfl) rfl
theorem mi_MD_normalise : Cond.instanceMethod y_MD_normalise ∈ sn_ws := sn_i5 (List.mem_of_getElem? (i := 66) rfl) rfl
theorem ms_MD_normalise : Cond.selects "SwitchedNetsModel" y_MD_normalise y_MD_normalise ∈ sn_ws := sn_i5 (List.mem_of_getElem? (i := 67) rfl) rfl
theorem mc_MD_keep : Cond.code y_MD_keep prog_9_method_49_code 1 none ∈ sn_ws := sn_i5 (List.mem_of_getElem? (i := 80) rfl) rfl
theorem mi_MD_keep : Cond.instanceMethod y_MD_keep ∈ sn_ws := sn_i5 (List.mem_of_getElem? (i := 78) rfl) rfl
theorem ms_MD_keep : Cond.selects "SwitchedNetsModel" y_MD_keep y_MD_keep ∈ sn_ws := sn_i5 (List.mem_of_getElem? (i := 79) rfl) rfl
theorem mc_MD_meet : Cond.code y_MD_meet prog_9_method_50_code 3 (some .boolean) ∈ sn_ws := sn_i5 (List.mem_of_getElem? (i := 88) rfl) rfl
theorem mi_MD_meet : Cond.instanceMethod y_MD_meet ∈ sn_ws := sn_i5 (List.mem_of_getElem? (i := 87) rfl) rfl
theorem ms_MD_meet : Cond.selects "SwitchedNetsModel" y_MD_meet y_MD_meet ∈ sn_ws := sn_i0 (List.mem_of_getElem? (i := 56) rfl) rfl
theorem mc_MD_follow : Cond.code y_MD_follow prog_9_method_51_code 8 (some .boolean) ∈ sn_ws := sn_i5 (List.mem_of_getElem? (i := 92) rfl) rfl
theorem mi_MD_follow : Cond.instanceMethod y_MD_follow ∈ sn_ws := sn_i5 (List.mem_of_getElem? (i := 91) rfl) rfl
theorem ms_MD_follow : Cond.selects "SwitchedNetsModel" y_MD_follow y_MD_follow ∈ sn_ws := sn_i0 (List.mem_of_getElem? (i := 57) rfl) rfl
theorem mc_MD_same : Cond.code y_MD_same prog_9_method_52_code 3 (some .boolean) ∈ sn_ws := sn_i5 (List.mem_of_getElem? (i := 84) rfl) rfl
theorem mi_MD_same : Cond.instanceMethod y_MD_same ∈ sn_ws := sn_i5 (List.mem_of_getElem? (i := 82) rfl) rfl
theorem ms_MD_same : Cond.selects "SwitchedNetsModel" y_MD_same y_MD_same ∈ sn_ws := sn_i5 (List.mem_of_getElem? (i := 83) rfl) rfl
theorem mc_MD_isIn : Cond.code y_MD_isIn prog_9_method_53_code 3 (some .boolean) ∈ sn_ws := sn_i5 (List.mem_of_getElem? (i := 107) rfl) rfl
theorem mt_MD_isIn : Cond.static y_MD_isIn ∈ sn_ws := sn_i5 (List.mem_of_getElem? (i := 106) rfl) rfl
theorem mc_MD_isLast : Cond.code y_MD_isLast prog_9_method_54_code 4 (some .boolean) ∈ sn_ws := sn_i5 (List.mem_of_getElem? (i := 111) rfl) rfl
theorem mi_MD_isLast : Cond.instanceMethod y_MD_isLast ∈ sn_ws := sn_i5 (List.mem_of_getElem? (i := 110) rfl) rfl
theorem ms_MD_isLast : Cond.selects "SwitchedNetsModel" y_MD_isLast y_MD_isLast ∈ sn_ws := sn_i0 (List.mem_of_getElem? (i := 60) rfl) rfl
theorem mc_MD_joined : Cond.code y_MD_joined prog_9_method_55_code 10 (some .long) ∈ sn_ws := sn_i5 (List.mem_of_getElem? (i := 116) rfl) rfl
theorem mi_MD_joined : Cond.instanceMethod y_MD_joined ∈ sn_ws := sn_i5 (List.mem_of_getElem? (i := 115) rfl) rfl
theorem ms_MD_joined : Cond.selects "SwitchedNetsModel" y_MD_joined y_MD_joined ∈ sn_ws := sn_i0 (List.mem_of_getElem? (i := 61) rfl) rfl
theorem mc_MD_firstOf : Cond.code y_MD_firstOf prog_9_method_56_code 11 (some .int) ∈ sn_ws := sn_i5 (List.mem_of_getElem? (i := 104) rfl) rfl
theorem mi_MD_firstOf : Cond.instanceMethod y_MD_firstOf ∈ sn_ws := sn_i5 (List.mem_of_getElem? (i := 103) rfl) rfl
theorem ms_MD_firstOf : Cond.selects "SwitchedNetsModel" y_MD_firstOf y_MD_firstOf ∈ sn_ws := sn_i0 (List.mem_of_getElem? (i := 59) rfl) rfl
theorem mc_MD_prove : Cond.code y_MD_prove prog_9_method_57_code 8 (some .int) ∈ sn_ws := sn_i5 (List.mem_of_getElem? (i := 100) rfl) rfl
theorem mi_MD_prove : Cond.instanceMethod y_MD_prove ∈ sn_ws := sn_i5 (List.mem_of_getElem? (i := 99) rfl) rfl
theorem ms_MD_prove : Cond.selects "SwitchedNetsModel" y_MD_prove y_MD_prove ∈ sn_ws := sn_i0 (List.mem_of_getElem? (i := 58) rfl) rfl
theorem mc_MD_rule : Cond.code y_MD_rule prog_9_method_58_code 2 (some .int) ∈ sn_ws := sn_i5 (List.mem_of_getElem? (i := 96) rfl) rfl
theorem mi_MD_rule : Cond.instanceMethod y_MD_rule ∈ sn_ws := sn_i5 (List.mem_of_getElem? (i := 94) rfl) rfl
theorem ms_MD_rule : Cond.selects "SwitchedNetsModel" y_MD_rule y_MD_rule ∈ sn_ws := sn_i5 (List.mem_of_getElem? (i := 95) rfl) rfl
theorem mc_MD_listAtoms : Cond.code y_MD_listAtoms prog_9_method_59_code 4 none ∈ sn_ws := sn_i5 (List.mem_of_getElem? (i := 128) rfl) rfl
theorem mi_MD_listAtoms : Cond.instanceMethod y_MD_listAtoms ∈ sn_ws := sn_i5 (List.mem_of_getElem? (i := 127) rfl) rfl
theorem ms_MD_listAtoms : Cond.selects "SwitchedNetsModel" y_MD_listAtoms y_MD_listAtoms ∈ sn_ws := sn_i0 (List.mem_of_getElem? (i := 63) rfl) rfl
theorem mc_MD_fit : Cond.code y_MD_fit prog_9_method_60_code 3 (some .boolean) ∈ sn_ws := sn_i5 (List.mem_of_getElem? (i := 136) rfl) rfl
theorem mi_MD_fit : Cond.instanceMethod y_MD_fit ∈ sn_ws := sn_i5 (List.mem_of_getElem? (i := 135) rfl) rfl
theorem ms_MD_fit : Cond.selects "SwitchedNetsModel" y_MD_fit y_MD_fit ∈ sn_ws := sn_i0 (List.mem_of_getElem? (i := 65) rfl) rfl
theorem mc_MD_lay : Cond.code y_MD_lay prog_9_method_61_code 8 none ∈ sn_ws := sn_i5 (List.mem_of_getElem? (i := 144) rfl) rfl
theorem mi_MD_lay : Cond.instanceMethod y_MD_lay ∈ sn_ws := sn_i5 (List.mem_of_getElem? (i := 143) rfl) rfl
theorem ms_MD_lay : Cond.selects "SwitchedNetsModel" y_MD_lay y_MD_lay ∈ sn_ws := sn_i0 (List.mem_of_getElem? (i := 67) rfl) rfl
theorem mc_MD_edgeOf : Cond.code y_MD_edgeOf prog_9_method_62_code 6 (some .int) ∈ sn_ws := sn_i5 (List.mem_of_getElem? (i := 148) rfl) rfl
theorem mi_MD_edgeOf : Cond.instanceMethod y_MD_edgeOf ∈ sn_ws := sn_i5 (List.mem_of_getElem? (i := 147) rfl) rfl
theorem ms_MD_edgeOf : Cond.selects "SwitchedNetsModel" y_MD_edgeOf y_MD_edgeOf ∈ sn_ws := sn_i0 (List.mem_of_getElem? (i := 68) rfl) rfl
theorem mc_MD_raise : Cond.code y_MD_raise prog_9_method_63_code 5 (some .boolean) ∈ sn_ws := sn_i5 (List.mem_of_getElem? (i := 140) rfl) rfl
theorem mi_MD_raise : Cond.instanceMethod y_MD_raise ∈ sn_ws := sn_i5 (List.mem_of_getElem? (i := 139) rfl) rfl
theorem ms_MD_raise : Cond.selects "SwitchedNetsModel" y_MD_raise y_MD_raise ∈ sn_ws := sn_i0 (List.mem_of_getElem? (i := 66) rfl) rfl
theorem mc_MD_fill : Cond.code y_MD_fill prog_9_method_64_code 3 (some .boolean) ∈ sn_ws := sn_i5 (List.mem_of_getElem? (i := 132) rfl) rfl
theorem mi_MD_fill : Cond.instanceMethod y_MD_fill ∈ sn_ws := sn_i5 (List.mem_of_getElem? (i := 131) rfl) rfl
theorem ms_MD_fill : Cond.selects "SwitchedNetsModel" y_MD_fill y_MD_fill ∈ sn_ws := sn_i0 (List.mem_of_getElem? (i := 64) rfl) rfl
theorem mc_MD_goTo : Cond.code y_MD_goTo prog_9_method_65_code 5 (some .int) ∈ sn_ws := sn_i5 (List.mem_of_getElem? (i := 124) rfl) rfl
theorem mi_MD_goTo : Cond.instanceMethod y_MD_goTo ∈ sn_ws := sn_i5 (List.mem_of_getElem? (i := 123) rfl) rfl
theorem ms_MD_goTo : Cond.selects "SwitchedNetsModel" y_MD_goTo y_MD_goTo ∈ sn_ws := sn_i0 (List.mem_of_getElem? (i := 62) rfl) rfl
theorem mc_MD_linkings : Cond.code y_MD_linkings prog_9_method_66_code 3 (some .int) ∈ sn_ws := sn_i5 (List.mem_of_getElem? (i := 120) rfl) rfl
theorem mi_MD_linkings : Cond.instanceMethod y_MD_linkings ∈ sn_ws := sn_i5 (List.mem_of_getElem? (i := 118) rfl) rfl
theorem ms_MD_linkings : Cond.selects "SwitchedNetsModel" y_MD_linkings y_MD_linkings ∈ sn_ws := sn_i5 (List.mem_of_getElem? (i := 119) rfl) rfl
theorem mc_MD_isLinking : Cond.code y_MD_isLinking prog_9_method_67_code 3 (some .boolean) ∈ sn_ws := sn_i5 (List.mem_of_getElem? (i := 156) rfl) rfl
theorem mi_MD_isLinking : Cond.instanceMethod y_MD_isLinking ∈ sn_ws := sn_i5 (List.mem_of_getElem? (i := 155) rfl) rfl
theorem ms_MD_isLinking : Cond.selects "SwitchedNetsModel" y_MD_isLinking y_MD_isLinking ∈ sn_ws := sn_i0 (List.mem_of_getElem? (i := 69) rfl) rfl
theorem mc_MD_partner : Cond.code y_MD_partner prog_9_method_68_code 4 (some .int) ∈ sn_ws := sn_i5 (List.mem_of_getElem? (i := 152) rfl) rfl
theorem mi_MD_partner : Cond.instanceMethod y_MD_partner ∈ sn_ws := sn_i5 (List.mem_of_getElem? (i := 150) rfl) rfl
theorem ms_MD_partner : Cond.selects "SwitchedNetsModel" y_MD_partner y_MD_partner ∈ sn_ws := sn_i5 (List.mem_of_getElem? (i := 151) rfl) rfl
theorem mc_MD_build : Cond.code y_MD_build prog_9_method_69_code 3 (some .int) ∈ sn_ws := sn_i5 (List.mem_of_getElem? (i := 160) rfl) rfl
theorem mi_MD_build : Cond.instanceMethod y_MD_build ∈ sn_ws := sn_i5 (List.mem_of_getElem? (i := 158) rfl) rfl
theorem ms_MD_build : Cond.selects "SwitchedNetsModel" y_MD_build y_MD_build ∈ sn_ws := sn_i5 (List.mem_of_getElem? (i := 159) rfl) rfl
def y_AR_fill : MethodName := ⟨"java/util/Arrays", "fill", "([II)V"⟩
theorem mz_AR : Cond.initialized "java/util/Arrays" ∈ sn_ws := sn_i1 (List.mem_of_getElem? (i := 16) rfl) rfl
theorem mc_AR_fill : Cond.code y_AR_fill prog_18_method_103_code 4 none ∈ sn_ws := sn_i2 (List.mem_of_getElem? (i := 219) rfl) rfl
theorem mt_AR_fill : Cond.static y_AR_fill ∈ sn_ws := sn_i2 (List.mem_of_getElem? (i := 218) rfl) rfl
theorem ml_FO_38 : Cond.methodLink "SwitchedNets$Formulas" 38 y_FO_find ∈ sn_ws := sn_i3 (List.mem_of_getElem? (i := 167) rfl) rfl
theorem ml_FO_42 : Cond.methodLink "SwitchedNets$Formulas" 42 y_FO_add ∈ sn_ws := sn_i3 (List.mem_of_getElem? (i := 191) rfl) rfl
theorem ml_FO_45 : Cond.methodLink "SwitchedNets$Formulas" 45 y_FO_missingDuals ∈ sn_ws := sn_i3 (List.mem_of_getElem? (i := 225) rfl) rfl
theorem ml_FO_49 : Cond.methodLink "SwitchedNets$Formulas" 49 y_FO_partWithoutDual ∈ sn_ws := sn_i3 (List.mem_of_getElem? (i := 234) rfl) rfl
theorem ml_FO_52 : Cond.methodLink "SwitchedNets$Formulas" 52 y_FO_addDual ∈ sn_ws := sn_i3 (List.mem_of_getElem? (i := 238) rfl) rfl
theorem ml_FO_56 : Cond.methodLink "SwitchedNets$Formulas" 56 ⟨"java/lang/Math", "min", "(II)I"⟩ ∈ sn_ws := sn_i3 (List.mem_of_getElem? (i := 195) rfl) rfl
theorem ml_FO_62 : Cond.methodLink "SwitchedNets$Formulas" 62 y_FO_findDual ∈ sn_ws := sn_i3 (List.mem_of_getElem? (i := 198) rfl) rfl
theorem ml_FO_65 : Cond.methodLink "SwitchedNets$Formulas" 65 y_FO_otherKind ∈ sn_ws := sn_i3 (List.mem_of_getElem? (i := 202) rfl) rfl
def ft_FO : List (Nat × Nat × Nat) := [(9, 0, 0), (15, 0, 1), (18, 0, 2), (21, 0, 3), (24, 0, 4), (27, 0, 5), (31, 0, 6), (34, 0, 7)]
theorem FI_FO : sn_FI "SwitchedNets$Formulas" sn_ws (sn_lk ft_FO) := sn_FI_of (List.forall_mem_cons.mpr ⟨sn_fq rfl (by decide) la_FO rfl (sn_i1 (List.mem_of_getElem? (i := 31) rfl) rfl), List.forall_mem_cons.mpr ⟨sn_fq rfl (by decide) la_FO rfl (sn_i1 (List.mem_of_getElem? (i := 34) rfl) rfl), List.forall_mem_cons.mpr ⟨sn_fq rfl (by decide) la_FO rfl (sn_i1 (List.mem_of_getElem? (i := 37) rfl) rfl), List.forall_mem_cons.mpr ⟨sn_fq rfl (by decide) la_FO rfl (sn_i1 (List.mem_of_getElem? (i := 40) rfl) rfl), List.forall_mem_cons.mpr ⟨sn_fq rfl (by decide) la_FO rfl (sn_i1 (List.mem_of_getElem? (i := 43) rfl) rfl), List.forall_mem_cons.mpr ⟨sn_fq rfl (by decide) la_FO rfl (sn_i1 (List.mem_of_getElem? (i := 46) rfl) rfl), List.forall_mem_cons.mpr ⟨sn_fq rfl (by decide) la_FO rfl (sn_i1 (List.mem_of_getElem? (i := 47) rfl) rfl), List.forall_mem_cons.mpr ⟨sn_fq rfl (by decide) la_FO rfl (sn_i1 (List.mem_of_getElem? (i := 48) rfl) rfl), fun _ h => absurd h List.not_mem_nil⟩⟩⟩⟩⟩⟩⟩⟩)
theorem ml_LK_33 : Cond.methodLink "SwitchedNets$Likeness" 33 y_AR_fill ∈ sn_ws := sn_i2 (List.mem_of_getElem? (i := 217) rfl) rfl
theorem ml_LK_42 : Cond.methodLink "SwitchedNets$Likeness" 42 y_LK_layEdge ∈ sn_ws := sn_i2 (List.mem_of_getElem? (i := 220) rfl) rfl
theorem ml_LK_49 : Cond.methodLink "SwitchedNets$Likeness" 49 y_LK_layLink ∈ sn_ws := sn_i2 (List.mem_of_getElem? (i := 224) rfl) rfl
def ft_LK : List (Nat × Nat × Nat) := [(9, 1, 0), (15, 1, 1), (18, 1, 2), (21, 1, 3), (25, 4, 11), (30, 4, 14), (39, 4, 8), (46, 4, 5), (52, 4, 6), (55, 4, 4), (58, 4, 7), (61, 4, 0), (64, 4, 1), (67, 4, 2), (70, 4, 3)]
theorem FI_LK : sn_FI "SwitchedNets$Likeness" sn_ws (sn_lk ft_LK) := sn_FI_of (List.forall_mem_cons.mpr ⟨sn_fq rfl (by decide) la_LK rfl (sn_i1 (List.mem_of_getElem? (i := 213) rfl) rfl), List.forall_mem_cons.mpr ⟨sn_fq rfl (by decide) la_LK rfl (sn_i1 (List.mem_of_getElem? (i := 214) rfl) rfl), List.forall_mem_cons.mpr ⟨sn_fq rfl (by decide) la_LK rfl (sn_i1 (List.mem_of_getElem? (i := 215) rfl) rfl), List.forall_mem_cons.mpr ⟨sn_fq rfl (by decide) la_LK rfl (sn_i1 (List.mem_of_getElem? (i := 216) rfl) rfl), List.forall_mem_cons.mpr ⟨sn_fq rfl (by decide) la_ST rfl (sn_i1 (List.mem_of_getElem? (i := 116) rfl) rfl), List.forall_mem_cons.mpr ⟨sn_fq rfl (by decide) la_ST rfl (sn_i1 (List.mem_of_getElem? (i := 125) rfl) rfl), List.forall_mem_cons.mpr ⟨sn_fq rfl (by decide) la_ST rfl (sn_i1 (List.mem_of_getElem? (i := 109) rfl) rfl), List.forall_mem_cons.mpr ⟨sn_fq rfl (by decide) la_ST rfl (sn_i1 (List.mem_of_getElem? (i := 101) rfl) rfl), List.forall_mem_cons.mpr ⟨sn_fq rfl (by decide) la_ST rfl (sn_i1 (List.mem_of_getElem? (i := 104) rfl) rfl), List.forall_mem_cons.mpr ⟨sn_fq rfl (by decide) la_ST rfl (sn_i1 (List.mem_of_getElem? (i := 97) rfl) rfl), List.forall_mem_cons.mpr ⟨sn_fq rfl (by decide) la_ST rfl (sn_i1 (List.mem_of_getElem? (i := 107) rfl) rfl), List.forall_mem_cons.mpr ⟨sn_fq rfl (by decide) la_ST rfl (sn_i1 (List.mem_of_getElem? (i := 77) rfl) rfl), List.forall_mem_cons.mpr ⟨sn_fq rfl (by decide) la_ST rfl (sn_i1 (List.mem_of_getElem? (i := 82) rfl) rfl), List.forall_mem_cons.mpr ⟨sn_fq rfl (by decide) la_ST rfl (sn_i1 (List.mem_of_getElem? (i := 87) rfl) rfl), List.forall_mem_cons.mpr ⟨sn_fq rfl (by decide) la_ST rfl (sn_i1 (List.mem_of_getElem? (i := 92) rfl) rfl), fun _ h => absurd h List.not_mem_nil⟩⟩⟩⟩⟩⟩⟩⟩⟩⟩⟩⟩⟩⟩⟩)
theorem ml_LS_60 : Cond.methodLink "SwitchedNets$LinkingSearch" 60 y_FO_has ∈ sn_ws := sn_i3 (List.mem_of_getElem? (i := 33) rfl) rfl
theorem ml_LS_69 : Cond.methodLink "SwitchedNets$LinkingSearch" 69 y_LS_listParts ∈ sn_ws := sn_i3 (List.mem_of_getElem? (i := 34) rfl) rfl
theorem ml_LS_73 : Cond.methodLink "SwitchedNets$LinkingSearch" 73 y_AR_fill ∈ sn_ws := sn_i3 (List.mem_of_getElem? (i := 38) rfl) rfl
theorem ml_LS_79 : Cond.methodLink "SwitchedNets$LinkingSearch" 79 y_LS_canBeTree ∈ sn_ws := sn_i3 (List.mem_of_getElem? (i := 39) rfl) rfl
theorem ml_LS_83 : Cond.methodLink "SwitchedNets$LinkingSearch" 83 y_LS_pairUp ∈ sn_ws := sn_i3 (List.mem_of_getElem? (i := 43) rfl) rfl
theorem ml_LS_87 : Cond.methodLink "SwitchedNets$LinkingSearch" 87 ⟨"java/lang/System", "arraycopy", "(Ljava/lang/Object;ILjava/lang/Object;II)V"⟩ ∈ sn_ws := sn_i3 (List.mem_of_getElem? (i := 66) rfl) rfl
theorem ml_LS_93 : Cond.methodLink "SwitchedNets$LinkingSearch" 93 y_LS_assemble ∈ sn_ws := sn_i3 (List.mem_of_getElem? (i := 47) rfl) rfl
theorem ml_LS_106 : Cond.methodLink "SwitchedNets$LinkingSearch" 106 y_SW_weigh ∈ sn_ws := sn_i3 (List.mem_of_getElem? (i := 65) rfl) rfl
theorem ml_LS_110 : Cond.methodLink "SwitchedNets$LinkingSearch" 110 y_LS_firstAlone ∈ sn_ws := sn_i3 (List.mem_of_getElem? (i := 67) rfl) rfl
theorem ml_LS_117 : Cond.methodLink "SwitchedNets$LinkingSearch" 117 y_ST_empty ∈ sn_ws := sn_i3 (List.mem_of_getElem? (i := 51) rfl) rfl
theorem ml_LS_120 : Cond.methodLink "SwitchedNets$LinkingSearch" 120 y_ST_addAxiom ∈ sn_ws := sn_i3 (List.mem_of_getElem? (i := 52) rfl) rfl
theorem ml_LS_126 : Cond.methodLink "SwitchedNets$LinkingSearch" 126 y_ST_addJoin ∈ sn_ws := sn_i3 (List.mem_of_getElem? (i := 60) rfl) rfl
theorem ml_LS_133 : Cond.methodLink "SwitchedNets$LinkingSearch" 133 y_ST_nameEdge ∈ sn_ws := sn_i3 (List.mem_of_getElem? (i := 64) rfl) rfl
def ft_LS : List (Nat × Nat × Nat) := [(12, 2, 0), (21, 2, 1), (25, 2, 2), (29, 2, 3), (32, 2, 4), (35, 2, 5), (38, 2, 6), (41, 2, 7), (44, 2, 8), (48, 2, 9), (51, 2, 10), (54, 2, 11), (57, 2, 12), (66, 0, 4), (97, 0, 0), (100, 0, 1), (103, 0, 2), (114, 0, 3), (124, 4, 1), (125, 4, 2), (130, 4, 3)]
theorem FI_LS : sn_FI "SwitchedNets$LinkingSearch" sn_ws (sn_lk ft_LS) := sn_FI_of (List.forall_mem_cons.mpr ⟨sn_fq rfl (by decide) la_LS rfl (sn_i1 (List.mem_of_getElem? (i := 236) rfl) rfl), List.forall_mem_cons.mpr ⟨sn_fq rfl (by decide) la_LS rfl (sn_i1 (List.mem_of_getElem? (i := 237) rfl) rfl), List.forall_mem_cons.mpr ⟨sn_fq rfl (by decide) la_LS rfl (sn_i1 (List.mem_of_getElem? (i := 238) rfl) rfl), List.forall_mem_cons.mpr ⟨sn_fq rfl (by decide) la_LS rfl (sn_i1 (List.mem_of_getElem? (i := 239) rfl) rfl), List.forall_mem_cons.mpr ⟨sn_fq rfl (by decide) la_LS rfl (sn_i2 (List.mem_of_getElem? (i := 0) rfl) rfl), List.forall_mem_cons.mpr ⟨sn_fq rfl (by decide) la_LS rfl (sn_i2 (List.mem_of_getElem? (i := 1) rfl) rfl), List.forall_mem_cons.mpr ⟨sn_fq rfl (by decide) la_LS rfl (sn_i2 (List.mem_of_getElem? (i := 2) rfl) rfl), List.forall_mem_cons.mpr ⟨sn_fq rfl (by decide) la_LS rfl (sn_i2 (List.mem_of_getElem? (i := 3) rfl) rfl), List.forall_mem_cons.mpr ⟨sn_fq rfl (by decide) la_LS rfl (sn_i2 (List.mem_of_getElem? (i := 4) rfl) rfl), List.forall_mem_cons.mpr ⟨sn_fq rfl (by decide) la_LS rfl (sn_i2 (List.mem_of_getElem? (i := 5) rfl) rfl), List.forall_mem_cons.mpr ⟨sn_fq rfl (by decide) la_LS rfl (sn_i2 (List.mem_of_getElem? (i := 6) rfl) rfl), List.forall_mem_cons.mpr ⟨sn_fq rfl (by decide) la_LS rfl (sn_i2 (List.mem_of_getElem? (i := 7) rfl) rfl), List.forall_mem_cons.mpr ⟨sn_fq rfl (by decide) la_LS rfl (sn_i2 (List.mem_of_getElem? (i := 8) rfl) rfl), List.forall_mem_cons.mpr ⟨sn_fq rfl (by decide) la_FO rfl (sn_i1 (List.mem_of_getElem? (i := 44) rfl) rfl), List.forall_mem_cons.mpr ⟨sn_fq rfl (by decide) la_FO rfl (sn_i1 (List.mem_of_getElem? (i := 32) rfl) rfl), List.forall_mem_cons.mpr ⟨sn_fq rfl (by decide) la_FO rfl (sn_i1 (List.mem_of_getElem? (i := 35) rfl) rfl), List.forall_mem_cons.mpr ⟨sn_fq rfl (by decide) la_FO rfl (sn_i1 (List.mem_of_getElem? (i := 38) rfl) rfl), List.forall_mem_cons.mpr ⟨sn_fq rfl (by decide) la_FO rfl (sn_i1 (List.mem_of_getElem? (i := 41) rfl) rfl), List.forall_mem_cons.mpr ⟨sn_fq rfl (by decide) la_ST rfl (sn_i1 (List.mem_of_getElem? (i := 83) rfl) rfl), List.forall_mem_cons.mpr ⟨sn_fq rfl (by decide) la_ST rfl (sn_i1 (List.mem_of_getElem? (i := 89) rfl) rfl), List.forall_mem_cons.mpr ⟨sn_fq rfl (by decide) la_ST rfl (sn_i1 (List.mem_of_getElem? (i := 94) rfl) rfl), fun _ h => absurd h List.not_mem_nil⟩⟩⟩⟩⟩⟩⟩⟩⟩⟩⟩⟩⟩⟩⟩⟩⟩⟩⟩⟩⟩)
theorem ml_PR_30 : Cond.methodLink "SwitchedNets$Proof" 30 y_PR_allLinks ∈ sn_ws := sn_i2 (List.mem_of_getElem? (i := 236) rfl) rfl
theorem ml_PR_39 : Cond.methodLink "SwitchedNets$Proof" 39 y_PR_lastRule ∈ sn_ws := sn_i3 (List.mem_of_getElem? (i := 2) rfl) rfl
theorem ml_PR_43 : Cond.methodLink "SwitchedNets$Proof" 43 y_PR_bit ∈ sn_ws := sn_i2 (List.mem_of_getElem? (i := 239) rfl) rfl
theorem ml_PR_58 : Cond.methodLink "SwitchedNets$Proof" 58 y_PR_reach ∈ sn_ws := sn_i3 (List.mem_of_getElem? (i := 17) rfl) rfl
theorem ml_PR_65 : Cond.methodLink "SwitchedNets$Proof" 65 y_PR_isIn ∈ sn_ws := sn_i3 (List.mem_of_getElem? (i := 6) rfl) rfl
theorem ml_PR_69 : Cond.methodLink "SwitchedNets$Proof" 69 y_PR_isLowest ∈ sn_ws := sn_i3 (List.mem_of_getElem? (i := 9) rfl) rfl
theorem ml_PR_73 : Cond.methodLink "SwitchedNets$Proof" 73 y_PR_splits ∈ sn_ws := sn_i3 (List.mem_of_getElem? (i := 12) rfl) rfl
theorem ml_PR_85 : Cond.methodLink "SwitchedNets$Proof" 85 y_PR_enter ∈ sn_ws := sn_i3 (List.mem_of_getElem? (i := 21) rfl) rfl
def ft_PR : List (Nat × Nat × Nat) := [(9, 3, 0), (15, 3, 1), (19, 3, 2), (22, 3, 3), (26, 3, 4), (34, 4, 11), (49, 4, 0), (52, 4, 5), (55, 4, 1), (62, 4, 9), (76, 4, 3), (79, 4, 6), (82, 4, 2)]
theorem FI_PR : sn_FI "SwitchedNets$Proof" sn_ws (sn_lk ft_PR) := sn_FI_of (List.forall_mem_cons.mpr ⟨sn_fq rfl (by decide) la_PR rfl (sn_i1 (List.mem_of_getElem? (i := 189) rfl) rfl), List.forall_mem_cons.mpr ⟨sn_fq rfl (by decide) la_PR rfl (sn_i1 (List.mem_of_getElem? (i := 191) rfl) rfl), List.forall_mem_cons.mpr ⟨sn_fq rfl (by decide) la_PR rfl (sn_i1 (List.mem_of_getElem? (i := 192) rfl) rfl), List.forall_mem_cons.mpr ⟨sn_fq rfl (by decide) la_PR rfl (sn_i1 (List.mem_of_getElem? (i := 193) rfl) rfl), List.forall_mem_cons.mpr ⟨sn_fq rfl (by decide) la_PR rfl (sn_i1 (List.mem_of_getElem? (i := 194) rfl) rfl), List.forall_mem_cons.mpr ⟨sn_fq rfl (by decide) la_ST rfl (sn_i1 (List.mem_of_getElem? (i := 117) rfl) rfl), List.forall_mem_cons.mpr ⟨sn_fq rfl (by decide) la_ST rfl (sn_i1 (List.mem_of_getElem? (i := 75) rfl) rfl), List.forall_mem_cons.mpr ⟨sn_fq rfl (by decide) la_ST rfl (sn_i1 (List.mem_of_getElem? (i := 100) rfl) rfl), List.forall_mem_cons.mpr ⟨sn_fq rfl (by decide) la_ST rfl (sn_i1 (List.mem_of_getElem? (i := 80) rfl) rfl), List.forall_mem_cons.mpr ⟨sn_fq rfl (by decide) la_ST rfl (sn_i1 (List.mem_of_getElem? (i := 112) rfl) rfl), List.forall_mem_cons.mpr ⟨sn_fq rfl (by decide) la_ST rfl (sn_i1 (List.mem_of_getElem? (i := 93) rfl) rfl), List.forall_mem_cons.mpr ⟨sn_fq rfl (by decide) la_ST rfl (sn_i1 (List.mem_of_getElem? (i := 105) rfl) rfl), List.forall_mem_cons.mpr ⟨sn_fq rfl (by decide) la_ST rfl (sn_i1 (List.mem_of_getElem? (i := 88) rfl) rfl), fun _ h => absurd h List.not_mem_nil⟩⟩⟩⟩⟩⟩⟩⟩⟩⟩⟩⟩⟩)
def lc_PR : List (Nat × Int64) := [(47, -1)]
theorem LC_PR : ∀ x v, sn_lk lc_PR x = some v → Cond.constantLong "SwitchedNets$Proof" x v ∈ sn_ws := by
  intro x v h
  have h1 := sn_lk_e _ h
  rw [show lc_PR = [(47, -1)] from rfl, List.mem_singleton] at h1
  cases h1
  exact sn_i3 (List.mem_of_getElem? (i := 16) rfl) rfl
theorem ml_ST_58 : Cond.methodLink "SwitchedNets$Structure" 58 ⟨"java/lang/System", "arraycopy", "(Ljava/lang/Object;ILjava/lang/Object;II)V"⟩ ∈ sn_ws := sn_i2 (List.mem_of_getElem? (i := 204) rfl) rfl
theorem ml_ST_64 : Cond.methodLink "SwitchedNets$Structure" 64 y_ST_hasEdge ∈ sn_ws := sn_i2 (List.mem_of_getElem? (i := 85) rfl) rfl
theorem ml_ST_68 : Cond.methodLink "SwitchedNets$Structure" 68 y_ST_isFree ∈ sn_ws := sn_i2 (List.mem_of_getElem? (i := 126) rfl) rfl
theorem ml_ST_71 : Cond.methodLink "SwitchedNets$Structure" 71 y_ST_addLink ∈ sn_ws := sn_i2 (List.mem_of_getElem? (i := 188) rfl) rfl
theorem ml_ST_75 : Cond.methodLink "SwitchedNets$Structure" 75 y_ST_addEdge ∈ sn_ws := sn_i3 (List.mem_of_getElem? (i := 56) rfl) rfl
theorem ml_ST_79 : Cond.methodLink "SwitchedNets$Structure" 79 y_ST_takePremises ∈ sn_ws := sn_i2 (List.mem_of_getElem? (i := 192) rfl) rfl
theorem ml_ST_83 : Cond.methodLink "SwitchedNets$Structure" 83 y_ST_passAxiom ∈ sn_ws := sn_i2 (List.mem_of_getElem? (i := 168) rfl) rfl
theorem ml_ST_86 : Cond.methodLink "SwitchedNets$Structure" 86 y_ST_splitCut ∈ sn_ws := sn_i2 (List.mem_of_getElem? (i := 180) rfl) rfl
theorem ml_ST_90 : Cond.methodLink "SwitchedNets$Structure" 90 y_ST_takePlace ∈ sn_ws := sn_i2 (List.mem_of_getElem? (i := 172) rfl) rfl
theorem ml_ST_94 : Cond.methodLink "SwitchedNets$Structure" 94 y_ST_removeLink ∈ sn_ws := sn_i2 (List.mem_of_getElem? (i := 176) rfl) rfl
theorem ml_ST_98 : Cond.methodLink "SwitchedNets$Structure" 98 y_ST_addCut ∈ sn_ws := sn_i2 (List.mem_of_getElem? (i := 184) rfl) rfl
def ft_ST : List (Nat × Nat × Nat) := [(9, 4, 0), (15, 4, 1), (18, 4, 2), (21, 4, 3), (24, 4, 4), (27, 4, 5), (30, 4, 6), (33, 4, 7), (36, 4, 8), (39, 4, 9), (43, 4, 10), (46, 4, 11), (49, 4, 12), (52, 4, 13), (55, 4, 14)]
theorem FI_ST : sn_FI "SwitchedNets$Structure" sn_ws (sn_lk ft_ST) := sn_FI_of (List.forall_mem_cons.mpr ⟨sn_fq rfl (by decide) la_ST rfl (sn_i1 (List.mem_of_getElem? (i := 74) rfl) rfl), List.forall_mem_cons.mpr ⟨sn_fq rfl (by decide) la_ST rfl (sn_i1 (List.mem_of_getElem? (i := 79) rfl) rfl), List.forall_mem_cons.mpr ⟨sn_fq rfl (by decide) la_ST rfl (sn_i1 (List.mem_of_getElem? (i := 85) rfl) rfl), List.forall_mem_cons.mpr ⟨sn_fq rfl (by decide) la_ST rfl (sn_i1 (List.mem_of_getElem? (i := 91) rfl) rfl), List.forall_mem_cons.mpr ⟨sn_fq rfl (by decide) la_ST rfl (sn_i1 (List.mem_of_getElem? (i := 96) rfl) rfl), List.forall_mem_cons.mpr ⟨sn_fq rfl (by decide) la_ST rfl (sn_i1 (List.mem_of_getElem? (i := 99) rfl) rfl), List.forall_mem_cons.mpr ⟨sn_fq rfl (by decide) la_ST rfl (sn_i1 (List.mem_of_getElem? (i := 103) rfl) rfl), List.forall_mem_cons.mpr ⟨sn_fq rfl (by decide) la_ST rfl (sn_i1 (List.mem_of_getElem? (i := 106) rfl) rfl), List.forall_mem_cons.mpr ⟨sn_fq rfl (by decide) la_ST rfl (sn_i1 (List.mem_of_getElem? (i := 108) rfl) rfl), List.forall_mem_cons.mpr ⟨sn_fq rfl (by decide) la_ST rfl (sn_i1 (List.mem_of_getElem? (i := 111) rfl) rfl), List.forall_mem_cons.mpr ⟨sn_fq rfl (by decide) la_ST rfl (sn_i1 (List.mem_of_getElem? (i := 114) rfl) rfl), List.forall_mem_cons.mpr ⟨sn_fq rfl (by decide) la_ST rfl (sn_i1 (List.mem_of_getElem? (i := 115) rfl) rfl), List.forall_mem_cons.mpr ⟨sn_fq rfl (by decide) la_ST rfl (sn_i1 (List.mem_of_getElem? (i := 120) rfl) rfl), List.forall_mem_cons.mpr ⟨sn_fq rfl (by decide) la_ST rfl (sn_i1 (List.mem_of_getElem? (i := 122) rfl) rfl), List.forall_mem_cons.mpr ⟨sn_fq rfl (by decide) la_ST rfl (sn_i1 (List.mem_of_getElem? (i := 124) rfl) rfl), fun _ h => absurd h List.not_mem_nil⟩⟩⟩⟩⟩⟩⟩⟩⟩⟩⟩⟩⟩⟩⟩)
theorem ml_SW_31 : Cond.methodLink "SwitchedNets$Switchings" 31 y_ST_isComplete ∈ sn_ws := sn_i2 (List.mem_of_getElem? (i := 122) rfl) rfl
theorem ml_SW_37 : Cond.methodLink "SwitchedNets$Switchings" 37 y_SW_joinWithoutPars ∈ sn_ws := sn_i2 (List.mem_of_getElem? (i := 127) rfl) rfl
theorem ml_SW_44 : Cond.methodLink "SwitchedNets$Switchings" 44 y_SW_lastChanged ∈ sn_ws := sn_i2 (List.mem_of_getElem? (i := 138) rfl) rfl
theorem ml_SW_48 : Cond.methodLink "SwitchedNets$Switchings" 48 y_SW_choose ∈ sn_ws := sn_i2 (List.mem_of_getElem? (i := 141) rfl) rfl
theorem ml_SW_67 : Cond.methodLink "SwitchedNets$Switchings" 67 y_SW_join ∈ sn_ws := sn_i2 (List.mem_of_getElem? (i := 131) rfl) rfl
theorem ml_SW_74 : Cond.methodLink "SwitchedNets$Switchings" 74 ⟨"java/lang/System", "arraycopy", "(Ljava/lang/Object;ILjava/lang/Object;II)V"⟩ ∈ sn_ws := sn_i2 (List.mem_of_getElem? (i := 145) rfl) rfl
theorem ml_SW_80 : Cond.methodLink "SwitchedNets$Switchings" 80 y_SW_rootOf ∈ sn_ws := sn_i2 (List.mem_of_getElem? (i := 135) rfl) rfl
def ft_SW : List (Nat × Nat × Nat) := [(11, 5, 0), (16, 5, 1), (20, 5, 2), (24, 5, 3), (27, 5, 4), (41, 4, 12), (52, 4, 11), (55, 4, 9), (58, 4, 0), (61, 4, 5), (64, 4, 1), (71, 4, 2)]
theorem FI_SW : sn_FI "SwitchedNets$Switchings" sn_ws (sn_lk ft_SW) := sn_FI_of (List.forall_mem_cons.mpr ⟨sn_fq rfl (by decide) la_SW rfl (sn_i1 (List.mem_of_getElem? (i := 166) rfl) rfl), List.forall_mem_cons.mpr ⟨sn_fq rfl (by decide) la_SW rfl (sn_i1 (List.mem_of_getElem? (i := 167) rfl) rfl), List.forall_mem_cons.mpr ⟨sn_fq rfl (by decide) la_SW rfl (sn_i1 (List.mem_of_getElem? (i := 168) rfl) rfl), List.forall_mem_cons.mpr ⟨sn_fq rfl (by decide) la_SW rfl (sn_i1 (List.mem_of_getElem? (i := 169) rfl) rfl), List.forall_mem_cons.mpr ⟨sn_fq rfl (by decide) la_SW rfl (sn_i1 (List.mem_of_getElem? (i := 170) rfl) rfl), List.forall_mem_cons.mpr ⟨sn_fq rfl (by decide) la_ST rfl (sn_i1 (List.mem_of_getElem? (i := 121) rfl) rfl), List.forall_mem_cons.mpr ⟨sn_fq rfl (by decide) la_ST rfl (sn_i1 (List.mem_of_getElem? (i := 118) rfl) rfl), List.forall_mem_cons.mpr ⟨sn_fq rfl (by decide) la_ST rfl (sn_i1 (List.mem_of_getElem? (i := 113) rfl) rfl), List.forall_mem_cons.mpr ⟨sn_fq rfl (by decide) la_ST rfl (sn_i1 (List.mem_of_getElem? (i := 76) rfl) rfl), List.forall_mem_cons.mpr ⟨sn_fq rfl (by decide) la_ST rfl (sn_i1 (List.mem_of_getElem? (i := 102) rfl) rfl), List.forall_mem_cons.mpr ⟨sn_fq rfl (by decide) la_ST rfl (sn_i1 (List.mem_of_getElem? (i := 81) rfl) rfl), List.forall_mem_cons.mpr ⟨sn_fq rfl (by decide) la_ST rfl (sn_i1 (List.mem_of_getElem? (i := 86) rfl) rfl), fun _ h => absurd h List.not_mem_nil⟩⟩⟩⟩⟩⟩⟩⟩⟩⟩⟩⟩)
theorem ml_SN_64 : Cond.methodLink "SwitchedNets" 64 y_FO_canHold ∈ sn_ws := sn_i3 (List.mem_of_getElem? (i := 163) rfl) rfl
theorem ml_SN_73 : Cond.methodLink "SwitchedNets" 73 y_FO_obtain ∈ sn_ws := sn_i3 (List.mem_of_getElem? (i := 187) rfl) rfl
theorem ml_SN_77 : Cond.methodLink "SwitchedNets" 77 y_FO_has ∈ sn_ws := sn_i2 (List.mem_of_getElem? (i := 65) rfl) rfl
theorem ml_SN_85 : Cond.methodLink "SwitchedNets" 85 y_FO_canHoldDual ∈ sn_ws := sn_i3 (List.mem_of_getElem? (i := 221) rfl) rfl
theorem ml_SN_90 : Cond.methodLink "SwitchedNets" 90 y_FO_obtainDual ∈ sn_ws := sn_i3 (List.mem_of_getElem? (i := 230) rfl) rfl
theorem ml_SN_108 : Cond.methodLink "SwitchedNets" 108 y_ST_empty ∈ sn_ws := sn_i2 (List.mem_of_getElem? (i := 73) rfl) rfl
theorem ml_SN_111 : Cond.methodLink "SwitchedNets" 111 y_ST_hasRoomFor ∈ sn_ws := sn_i4 (List.mem_of_getElem? (i := 9) rfl) rfl
theorem ml_SN_116 : Cond.methodLink "SwitchedNets" 116 y_ST_addAxiom ∈ sn_ws := sn_i4 (List.mem_of_getElem? (i := 14) rfl) rfl
theorem ml_SN_120 : Cond.methodLink "SwitchedNets" 120 y_ST_isFree ∈ sn_ws := sn_i2 (List.mem_of_getElem? (i := 81) rfl) rfl
theorem ml_SN_130 : Cond.methodLink "SwitchedNets" 130 y_ST_addJoin ∈ sn_ws := sn_i4 (List.mem_of_getElem? (i := 24) rfl) rfl
theorem ml_SN_141 : Cond.methodLink "SwitchedNets" 141 y_ST_addCut ∈ sn_ws := sn_i4 (List.mem_of_getElem? (i := 34) rfl) rfl
theorem ml_SN_144 : Cond.methodLink "SwitchedNets" 144 y_ST_nameEdge ∈ sn_ws := sn_i2 (List.mem_of_getElem? (i := 89) rfl) rfl
theorem ml_SN_147 : Cond.methodLink "SwitchedNets" 147 y_ST_hasLink ∈ sn_ws := sn_i2 (List.mem_of_getElem? (i := 97) rfl) rfl
theorem ml_SN_156 : Cond.methodLink "SwitchedNets" 156 y_ST_hasEdge ∈ sn_ws := sn_i2 (List.mem_of_getElem? (i := 105) rfl) rfl
theorem ml_SN_165 : Cond.methodLink "SwitchedNets" 165 y_SW_weigh ∈ sn_ws := sn_i2 (List.mem_of_getElem? (i := 118) rfl) rfl
theorem ml_SN_175 : Cond.methodLink "SwitchedNets" 175 y_ST_cutAt ∈ sn_ws := sn_i2 (List.mem_of_getElem? (i := 160) rfl) rfl
theorem ml_SN_178 : Cond.methodLink "SwitchedNets" 178 y_ST_reduceCut ∈ sn_ws := sn_i2 (List.mem_of_getElem? (i := 164) rfl) rfl
theorem ml_SN_181 : Cond.methodLink "SwitchedNets" 181 y_ST_copyFrom ∈ sn_ws := sn_i2 (List.mem_of_getElem? (i := 200) rfl) rfl
theorem ml_SN_185 : Cond.methodLink "SwitchedNets" 185 y_LK_holds ∈ sn_ws := sn_i2 (List.mem_of_getElem? (i := 213) rfl) rfl
theorem ml_SN_189 : Cond.methodLink "SwitchedNets" 189 y_PR_read ∈ sn_ws := sn_i2 (List.mem_of_getElem? (i := 232) rfl) rfl
theorem ml_SN_195 : Cond.methodLink "SwitchedNets" 195 y_LS_countFor ∈ sn_ws := sn_i3 (List.mem_of_getElem? (i := 29) rfl) rfl
theorem ml_SN_202 : Cond.methodLink "SwitchedNets" 202 y_LS_foundPartner ∈ sn_ws := sn_i3 (List.mem_of_getElem? (i := 75) rfl) rfl
theorem ml_SN_205 : Cond.methodLink "SwitchedNets" 205 y_LS_assembleFound ∈ sn_ws := sn_i3 (List.mem_of_getElem? (i := 83) rfl) rfl
def ft_SN : List (Nat × Nat × Nat) := [(10, 6, 0), (19, 6, 1), (23, 6, 2), (26, 6, 3), (32, 6, 4), (39, 6, 5), (46, 6, 6), (53, 6, 7), (94, 0, 0), (98, 0, 1), (101, 0, 2), (104, 4, 11), (125, 4, 4), (134, 0, 3), (150, 4, 0), (151, 4, 1), (152, 4, 2), (153, 4, 3), (159, 4, 14), (162, 4, 8), (169, 5, 4), (172, 4, 13), (192, 3, 0), (199, 0, 4)]
theorem FI_SN : sn_FI "SwitchedNets" sn_ws (sn_lk ft_SN) := sn_FI_of (List.forall_mem_cons.mpr ⟨sn_fq rfl (by decide) la_SN rfl (sn_i2 (List.mem_of_getElem? (i := 36) rfl) rfl), List.forall_mem_cons.mpr ⟨sn_fq rfl (by decide) la_SN rfl (sn_i2 (List.mem_of_getElem? (i := 37) rfl) rfl), List.forall_mem_cons.mpr ⟨sn_fq rfl (by decide) la_SN rfl (sn_i2 (List.mem_of_getElem? (i := 38) rfl) rfl), List.forall_mem_cons.mpr ⟨sn_fq rfl (by decide) la_SN rfl (sn_i2 (List.mem_of_getElem? (i := 39) rfl) rfl), List.forall_mem_cons.mpr ⟨sn_fq rfl (by decide) la_SN rfl (sn_i2 (List.mem_of_getElem? (i := 40) rfl) rfl), List.forall_mem_cons.mpr ⟨sn_fq rfl (by decide) la_SN rfl (sn_i2 (List.mem_of_getElem? (i := 41) rfl) rfl), List.forall_mem_cons.mpr ⟨sn_fq rfl (by decide) la_SN rfl (sn_i2 (List.mem_of_getElem? (i := 42) rfl) rfl), List.forall_mem_cons.mpr ⟨sn_fq rfl (by decide) la_SN rfl (sn_i2 (List.mem_of_getElem? (i := 43) rfl) rfl), List.forall_mem_cons.mpr ⟨sn_fq rfl (by decide) la_FO rfl (sn_i1 (List.mem_of_getElem? (i := 33) rfl) rfl), List.forall_mem_cons.mpr ⟨sn_fq rfl (by decide) la_FO rfl (sn_i1 (List.mem_of_getElem? (i := 36) rfl) rfl), List.forall_mem_cons.mpr ⟨sn_fq rfl (by decide) la_FO rfl (sn_i1 (List.mem_of_getElem? (i := 39) rfl) rfl), List.forall_mem_cons.mpr ⟨sn_fq rfl (by decide) la_ST rfl (sn_i1 (List.mem_of_getElem? (i := 119) rfl) rfl), List.forall_mem_cons.mpr ⟨sn_fq rfl (by decide) la_ST rfl (sn_i1 (List.mem_of_getElem? (i := 98) rfl) rfl), List.forall_mem_cons.mpr ⟨sn_fq rfl (by decide) la_FO rfl (sn_i1 (List.mem_of_getElem? (i := 42) rfl) rfl), List.forall_mem_cons.mpr ⟨sn_fq rfl (by decide) la_ST rfl (sn_i1 (List.mem_of_getElem? (i := 78) rfl) rfl), List.forall_mem_cons.mpr ⟨sn_fq rfl (by decide) la_ST rfl (sn_i1 (List.mem_of_getElem? (i := 84) rfl) rfl), List.forall_mem_cons.mpr ⟨sn_fq rfl (by decide) la_ST rfl (sn_i1 (List.mem_of_getElem? (i := 90) rfl) rfl), List.forall_mem_cons.mpr ⟨sn_fq rfl (by decide) la_ST rfl (sn_i1 (List.mem_of_getElem? (i := 95) rfl) rfl), List.forall_mem_cons.mpr ⟨sn_fq rfl (by decide) la_ST rfl (sn_i1 (List.mem_of_getElem? (i := 126) rfl) rfl), List.forall_mem_cons.mpr ⟨sn_fq rfl (by decide) la_ST rfl (sn_i1 (List.mem_of_getElem? (i := 110) rfl) rfl), List.forall_mem_cons.mpr ⟨sn_fq rfl (by decide) la_SW rfl (sn_i1 (List.mem_of_getElem? (i := 171) rfl) rfl), List.forall_mem_cons.mpr ⟨sn_fq rfl (by decide) la_ST rfl (sn_i1 (List.mem_of_getElem? (i := 123) rfl) rfl), List.forall_mem_cons.mpr ⟨sn_fq rfl (by decide) la_PR rfl (sn_i1 (List.mem_of_getElem? (i := 190) rfl) rfl), List.forall_mem_cons.mpr ⟨sn_fq rfl (by decide) la_FO rfl (sn_i1 (List.mem_of_getElem? (i := 45) rfl) rfl), fun _ h => absurd h List.not_mem_nil⟩⟩⟩⟩⟩⟩⟩⟩⟩⟩⟩⟩⟩⟩⟩⟩⟩⟩⟩⟩⟩⟩⟩⟩)
theorem ml_MD_90 : Cond.methodLink "SwitchedNetsModel" 90 y_MD_find ∈ sn_ws := sn_i4 (List.mem_of_getElem? (i := 141) rfl) rfl
theorem ml_MD_94 : Cond.methodLink "SwitchedNetsModel" 94 y_MD_findDuals ∈ sn_ws := sn_i4 (List.mem_of_getElem? (i := 161) rfl) rfl
theorem ml_MD_97 : Cond.methodLink "SwitchedNetsModel" 97 y_MD_make ∈ sn_ws := sn_i4 (List.mem_of_getElem? (i := 137) rfl) rfl
theorem ml_MD_100 : Cond.methodLink "SwitchedNetsModel" 100 y_MD_isFormula ∈ sn_ws := sn_i4 (List.mem_of_getElem? (i := 149) rfl) rfl
theorem ml_MD_104 : Cond.methodLink "SwitchedNetsModel" 104 y_MD_makeDual ∈ sn_ws := sn_i4 (List.mem_of_getElem? (i := 157) rfl) rfl
theorem ml_MD_108 : Cond.methodLink "SwitchedNetsModel" 108 y_MD_isEdge ∈ sn_ws := sn_i4 (List.mem_of_getElem? (i := 209) rfl) rfl
theorem ml_MD_112 : Cond.methodLink "SwitchedNetsModel" 112 y_MD_addLink ∈ sn_ws := sn_i4 (List.mem_of_getElem? (i := 193) rfl) rfl
theorem ml_MD_116 : Cond.methodLink "SwitchedNetsModel" 116 y_MD_addEdge ∈ sn_ws := sn_i4 (List.mem_of_getElem? (i := 197) rfl) rfl
theorem ml_MD_119 : Cond.methodLink "SwitchedNetsModel" 119 y_MD_count ∈ sn_ws := sn_i4 (List.mem_of_getElem? (i := 173) rfl) rfl
theorem ml_MD_123 : Cond.methodLink "SwitchedNetsModel" 123 y_MD_empty ∈ sn_ws := sn_i4 (List.mem_of_getElem? (i := 177) rfl) rfl
theorem ml_MD_127 : Cond.methodLink "SwitchedNetsModel" 127 y_MD_hasRoom ∈ sn_ws := sn_i4 (List.mem_of_getElem? (i := 185) rfl) rfl
theorem ml_MD_130 : Cond.methodLink "SwitchedNetsModel" 130 y_MD_addAxiom ∈ sn_ws := sn_i4 (List.mem_of_getElem? (i := 189) rfl) rfl
theorem ml_MD_133 : Cond.methodLink "SwitchedNetsModel" 133 y_MD_isFree ∈ sn_ws := sn_i4 (List.mem_of_getElem? (i := 205) rfl) rfl
theorem ml_MD_136 : Cond.methodLink "SwitchedNetsModel" 136 y_MD_addPair ∈ sn_ws := sn_i4 (List.mem_of_getElem? (i := 213) rfl) rfl
theorem ml_MD_140 : Cond.methodLink "SwitchedNetsModel" 140 y_MD_name ∈ sn_ws := sn_i4 (List.mem_of_getElem? (i := 225) rfl) rfl
theorem ml_MD_144 : Cond.methodLink "SwitchedNetsModel" 144 y_MD_isLink ∈ sn_ws := sn_i4 (List.mem_of_getElem? (i := 233) rfl) rfl
theorem ml_MD_147 : Cond.methodLink "SwitchedNetsModel" 147 y_MD_isJoined ∈ sn_ws := sn_i5 (List.mem_of_getElem? (i := 25) rfl) rfl
theorem ml_MD_151 : Cond.methodLink "SwitchedNetsModel" 151 y_MD_root ∈ sn_ws := sn_i5 (List.mem_of_getElem? (i := 29) rfl) rfl
theorem ml_MD_160 : Cond.methodLink "SwitchedNetsModel" 160 y_MD_isComplete ∈ sn_ws := sn_i5 (List.mem_of_getElem? (i := 17) rfl) rfl
theorem ml_MD_163 : Cond.methodLink "SwitchedNetsModel" 163 y_MD_graph ∈ sn_ws := sn_i5 (List.mem_of_getElem? (i := 21) rfl) rfl
theorem ml_MD_166 : Cond.methodLink "SwitchedNetsModel" 166 y_MD_judgeAll ∈ sn_ws := sn_i5 (List.mem_of_getElem? (i := 13) rfl) rfl
theorem ml_MD_169 : Cond.methodLink "SwitchedNetsModel" 169 y_MD_drop ∈ sn_ws := sn_i5 (List.mem_of_getElem? (i := 57) rfl) rfl
theorem ml_MD_172 : Cond.methodLink "SwitchedNetsModel" 172 y_MD_dropEdge ∈ sn_ws := sn_i5 (List.mem_of_getElem? (i := 61) rfl) rfl
theorem ml_MD_175 : Cond.methodLink "SwitchedNetsModel" 175 y_MD_cutAt ∈ sn_ws := sn_i5 (List.mem_of_getElem? (i := 49) rfl) rfl
theorem ml_MD_178 : Cond.methodLink "SwitchedNetsModel" 178 y_MD_slide ∈ sn_ws := sn_i5 (List.mem_of_getElem? (i := 53) rfl) rfl
theorem ml_MD_181 : Cond.methodLink "SwitchedNetsModel" 181 y_MD_reduceAt ∈ sn_ws := sn_i5 (List.mem_of_getElem? (i := 45) rfl) rfl
theorem ml_MD_184 : Cond.methodLink "SwitchedNetsModel" 184 y_MD_isNet ∈ sn_ws := sn_i5 (List.mem_of_getElem? (i := 69) rfl) rfl
theorem ml_MD_187 : Cond.methodLink "SwitchedNetsModel" 187 y_MD_copy ∈ sn_ws := sn_i5 (List.mem_of_getElem? (i := 73) rfl) rfl
theorem ml_MD_190 : Cond.methodLink "SwitchedNetsModel" 190 y_MD_meet ∈ sn_ws := sn_i5 (List.mem_of_getElem? (i := 85) rfl) rfl
theorem ml_MD_193 : Cond.methodLink "SwitchedNetsModel" 193 y_MD_follow ∈ sn_ws := sn_i5 (List.mem_of_getElem? (i := 89) rfl) rfl
theorem ml_MD_196 : Cond.methodLink "SwitchedNetsModel" 196 y_MD_isIn ∈ sn_ws := sn_i5 (List.mem_of_getElem? (i := 105) rfl) rfl
theorem ml_MD_200 : Cond.methodLink "SwitchedNetsModel" 200 y_MD_isLast ∈ sn_ws := sn_i5 (List.mem_of_getElem? (i := 108) rfl) rfl
theorem ml_MD_205 : Cond.methodLink "SwitchedNetsModel" 205 y_MD_joined ∈ sn_ws := sn_i5 (List.mem_of_getElem? (i := 113) rfl) rfl
theorem ml_MD_209 : Cond.methodLink "SwitchedNetsModel" 209 y_MD_firstOf ∈ sn_ws := sn_i5 (List.mem_of_getElem? (i := 101) rfl) rfl
theorem ml_MD_213 : Cond.methodLink "SwitchedNetsModel" 213 y_MD_prove ∈ sn_ws := sn_i5 (List.mem_of_getElem? (i := 97) rfl) rfl
theorem ml_MD_220 : Cond.methodLink "SwitchedNetsModel" 220 y_MD_edgeOf ∈ sn_ws := sn_i5 (List.mem_of_getElem? (i := 145) rfl) rfl
theorem ml_MD_223 : Cond.methodLink "SwitchedNetsModel" 223 y_MD_fit ∈ sn_ws := sn_i5 (List.mem_of_getElem? (i := 133) rfl) rfl
theorem ml_MD_226 : Cond.methodLink "SwitchedNetsModel" 226 y_MD_raise ∈ sn_ws := sn_i5 (List.mem_of_getElem? (i := 137) rfl) rfl
theorem ml_MD_229 : Cond.methodLink "SwitchedNetsModel" 229 y_MD_listAtoms ∈ sn_ws := sn_i5 (List.mem_of_getElem? (i := 125) rfl) rfl
theorem ml_MD_232 : Cond.methodLink "SwitchedNetsModel" 232 y_MD_fill ∈ sn_ws := sn_i5 (List.mem_of_getElem? (i := 129) rfl) rfl
theorem ml_MD_236 : Cond.methodLink "SwitchedNetsModel" 236 y_MD_lay ∈ sn_ws := sn_i5 (List.mem_of_getElem? (i := 141) rfl) rfl
theorem ml_MD_239 : Cond.methodLink "SwitchedNetsModel" 239 y_MD_goTo ∈ sn_ws := sn_i5 (List.mem_of_getElem? (i := 121) rfl) rfl
theorem ml_MD_242 : Cond.methodLink "SwitchedNetsModel" 242 y_MD_isLinking ∈ sn_ws := sn_i5 (List.mem_of_getElem? (i := 153) rfl) rfl
def ft_MD : List (Nat × Nat × Nat) := [(7, 7, 2), (13, 7, 3), (16, 7, 4), (19, 7, 5), (22, 7, 6), (25, 7, 7), (28, 7, 8), (31, 7, 9), (34, 7, 10), (37, 7, 11), (40, 7, 12), (43, 7, 13), (46, 7, 14), (49, 7, 15), (52, 7, 16), (55, 7, 17), (58, 7, 18), (61, 7, 21), (64, 7, 22), (67, 7, 23), (71, 7, 25), (74, 7, 26), (77, 7, 27), (80, 7, 28), (83, 7, 0), (87, 7, 1), (154, 7, 19), (157, 7, 20), (217, 7, 24)]
theorem FI_MD : sn_FI "SwitchedNetsModel" sn_ws (sn_lk ft_MD) := sn_FI_of (List.forall_mem_cons.mpr ⟨sn_fq rfl (by decide) la_MD rfl (sn_i4 (List.mem_of_getElem? (i := 43) rfl) rfl), List.forall_mem_cons.mpr ⟨sn_fq rfl (by decide) la_MD rfl (sn_i4 (List.mem_of_getElem? (i := 44) rfl) rfl), List.forall_mem_cons.mpr ⟨sn_fq rfl (by decide) la_MD rfl (sn_i4 (List.mem_of_getElem? (i := 45) rfl) rfl), List.forall_mem_cons.mpr ⟨sn_fq rfl (by decide) la_MD rfl (sn_i4 (List.mem_of_getElem? (i := 46) rfl) rfl), List.forall_mem_cons.mpr ⟨sn_fq rfl (by decide) la_MD rfl (sn_i4 (List.mem_of_getElem? (i := 47) rfl) rfl), List.forall_mem_cons.mpr ⟨sn_fq rfl (by decide) la_MD rfl (sn_i4 (List.mem_of_getElem? (i := 48) rfl) rfl), List.forall_mem_cons.mpr ⟨sn_fq rfl (by decide) la_MD rfl (sn_i4 (List.mem_of_getElem? (i := 49) rfl) rfl), List.forall_mem_cons.mpr ⟨sn_fq rfl (by decide) la_MD rfl (sn_i4 (List.mem_of_getElem? (i := 50) rfl) rfl), List.forall_mem_cons.mpr ⟨sn_fq rfl (by decide) la_MD rfl (sn_i4 (List.mem_of_getElem? (i := 51) rfl) rfl), List.forall_mem_cons.mpr ⟨sn_fq rfl (by decide) la_MD rfl (sn_i4 (List.mem_of_getElem? (i := 52) rfl) rfl), List.forall_mem_cons.mpr ⟨sn_fq rfl (by decide) la_MD rfl (sn_i4 (List.mem_of_getElem? (i := 53) rfl) rfl), List.forall_mem_cons.mpr ⟨sn_fq rfl (by decide) la_MD rfl (sn_i4 (List.mem_of_getElem? (i := 54) rfl) rfl), List.forall_mem_cons.mpr ⟨sn_fq rfl (by decide) la_MD rfl (sn_i4 (List.mem_of_getElem? (i := 55) rfl) rfl), List.forall_mem_cons.mpr ⟨sn_fq rfl (by decide) la_MD rfl (sn_i4 (List.mem_of_getElem? (i := 56) rfl) rfl), List.forall_mem_cons.mpr ⟨sn_fq rfl (by decide) la_MD rfl (sn_i4 (List.mem_of_getElem? (i := 57) rfl) rfl), List.forall_mem_cons.mpr ⟨sn_fq rfl (by decide) la_MD rfl (sn_i4 (List.mem_of_getElem? (i := 58) rfl) rfl), List.forall_mem_cons.mpr ⟨sn_fq rfl (by decide) la_MD rfl (sn_i4 (List.mem_of_getElem? (i := 59) rfl) rfl), List.forall_mem_cons.mpr ⟨sn_fq rfl (by decide) la_MD rfl (sn_i4 (List.mem_of_getElem? (i := 62) rfl) rfl), List.forall_mem_cons.mpr ⟨sn_fq rfl (by decide) la_MD rfl (sn_i4 (List.mem_of_getElem? (i := 63) rfl) rfl), List.forall_mem_cons.mpr ⟨sn_fq rfl (by decide) la_MD rfl (sn_i4 (List.mem_of_getElem? (i := 64) rfl) rfl), List.forall_mem_cons.mpr ⟨sn_fq rfl (by decide) la_MD rfl (sn_i4 (List.mem_of_getElem? (i := 66) rfl) rfl), List.forall_mem_cons.mpr ⟨sn_fq rfl (by decide) la_MD rfl (sn_i4 (List.mem_of_getElem? (i := 67) rfl) rfl), List.forall_mem_cons.mpr ⟨sn_fq rfl (by decide) la_MD rfl (sn_i4 (List.mem_of_getElem? (i := 68) rfl) rfl), List.forall_mem_cons.mpr ⟨sn_fq rfl (by decide) la_MD rfl (sn_i4 (List.mem_of_getElem? (i := 69) rfl) rfl), List.forall_mem_cons.mpr ⟨sn_fq rfl (by decide) la_MD rfl (sn_i4 (List.mem_of_getElem? (i := 41) rfl) rfl), List.forall_mem_cons.mpr ⟨sn_fq rfl (by decide) la_MD rfl (sn_i4 (List.mem_of_getElem? (i := 42) rfl) rfl), List.forall_mem_cons.mpr ⟨sn_fq rfl (by decide) la_MD rfl (sn_i4 (List.mem_of_getElem? (i := 60) rfl) rfl), List.forall_mem_cons.mpr ⟨sn_fq rfl (by decide) la_MD rfl (sn_i4 (List.mem_of_getElem? (i := 61) rfl) rfl), List.forall_mem_cons.mpr ⟨sn_fq rfl (by decide) la_MD rfl (sn_i4 (List.mem_of_getElem? (i := 65) rfl) rfl), fun _ h => absurd h List.not_mem_nil⟩⟩⟩⟩⟩⟩⟩⟩⟩⟩⟩⟩⟩⟩⟩⟩⟩⟩⟩⟩⟩⟩⟩⟩⟩⟩⟩⟩⟩)
def lc_MD : List (Nat × Int64) := [(203, -1)]
theorem LC_MD : ∀ x v, sn_lk lc_MD x = some v → Cond.constantLong "SwitchedNetsModel" x v ∈ sn_ws := by
  intro x v h
  have h1 := sn_lk_e _ h
  rw [show lc_MD = [(203, -1)] from rfl, List.mem_singleton] at h1
  cases h1
  exact sn_i5 (List.mem_of_getElem? (i := 112) rfl) rfl
theorem nh_FO : "SwitchedNets$Formulas" ≠ "java/lang/invoke/MethodHandle" ∧ "SwitchedNets$Formulas" ≠ "java/lang/invoke/VarHandle" := by decide +kernel
theorem pl_FO : plainName "SwitchedNets$Formulas" = true := by decide +kernel
abbrev ws_FO_has : List Cond := Cond.code y_FO_has prog_2_method_2_code 2 (some .boolean) :: sn_ws
theorem pn_FO_has : (parseMethodDescriptor y_FO_has.desc).map (fun d => d.parameters.length + 1) = some 2 := by decide +kernel
abbrev ws_FO_canHold : List Cond := Cond.code y_FO_canHold prog_2_method_3_code 4 (some .boolean) :: sn_ws
theorem pn_FO_canHold : (parseMethodDescriptor y_FO_canHold.desc).map (fun d => d.parameters.length + 1) = some 4 := by decide +kernel
abbrev ws_FO_obtain : List Cond := Cond.code y_FO_obtain prog_2_method_4_code 5 (some .int) :: sn_ws
theorem pn_FO_obtain : (parseMethodDescriptor y_FO_obtain.desc).map (fun d => d.parameters.length + 1) = some 4 := by decide +kernel
abbrev ws_FO_canHoldDual : List Cond := Cond.code y_FO_canHoldDual prog_2_method_5_code 2 (some .boolean) :: sn_ws
theorem pn_FO_canHoldDual : (parseMethodDescriptor y_FO_canHoldDual.desc).map (fun d => d.parameters.length + 1) = some 2 := by decide +kernel
abbrev ws_FO_obtainDual : List Cond := Cond.code y_FO_obtainDual prog_2_method_6_code 6 (some .int) :: sn_ws
theorem pn_FO_obtainDual : (parseMethodDescriptor y_FO_obtainDual.desc).map (fun d => d.parameters.length + 1) = some 2 := by decide +kernel
abbrev ws_FO_find : List Cond := Cond.code y_FO_find prog_2_method_7_code 5 (some .int) :: sn_ws
theorem pn_FO_find : (parseMethodDescriptor y_FO_find.desc).map (fun d => d.parameters.length + 1) = some 4 := by decide +kernel
abbrev ws_FO_add : List Cond := Cond.code y_FO_add prog_2_method_8_code 5 (some .int) :: sn_ws
theorem pn_FO_add : (parseMethodDescriptor y_FO_add.desc).map (fun d => d.parameters.length + 1) = some 4 := by decide +kernel
abbrev ws_FO_findDual : List Cond := Cond.code y_FO_findDual prog_2_method_9_code 4 (some .int) :: sn_ws
theorem pn_FO_findDual : (parseMethodDescriptor y_FO_findDual.desc).map (fun d => d.parameters.length + 1) = some 2 := by decide +kernel
abbrev ws_FO_addDual : List Cond := Cond.code y_FO_addDual prog_2_method_10_code 2 none :: sn_ws
theorem pn_FO_addDual : (parseMethodDescriptor y_FO_addDual.desc).map (fun d => d.parameters.length + 1) = some 2 := by decide +kernel
abbrev ws_FO_partWithoutDual : List Cond := Cond.code y_FO_partWithoutDual prog_2_method_11_code 2 (some .int) :: sn_ws
theorem pn_FO_partWithoutDual : (parseMethodDescriptor y_FO_partWithoutDual.desc).map (fun d => d.parameters.length + 1) = some 2 := by decide +kernel
abbrev ws_FO_missingDuals : List Cond := Cond.code y_FO_missingDuals prog_2_method_12_code 4 (some .int) :: sn_ws
theorem pn_FO_missingDuals : (parseMethodDescriptor y_FO_missingDuals.desc).map (fun d => d.parameters.length + 1) = some 2 := by decide +kernel
abbrev ws_FO_otherKind : List Cond := Cond.code y_FO_otherKind prog_2_method_13_code 1 (some .int) :: sn_ws
theorem pn_FO_otherKind : (parseMethodDescriptor y_FO_otherKind.desc).map (fun d => d.parameters.length) = some 1 := by decide +kernel
theorem nh_LK : "SwitchedNets$Likeness" ≠ "java/lang/invoke/MethodHandle" ∧ "SwitchedNets$Likeness" ≠ "java/lang/invoke/VarHandle" := by decide +kernel
theorem pl_LK : plainName "SwitchedNets$Likeness" = true := by decide +kernel
abbrev ws_LK_holds : List Cond := Cond.code y_LK_holds prog_3_method_2_code 7 (some .boolean) :: sn_ws
theorem pn_LK_holds : (parseMethodDescriptor y_LK_holds.desc).map (fun d => d.parameters.length + 1) = some 3 := by decide +kernel
abbrev ws_LK_layEdge : List Cond := Cond.code y_LK_layEdge prog_3_method_3_code 5 (some .boolean) :: sn_ws
theorem pn_LK_layEdge : (parseMethodDescriptor y_LK_layEdge.desc).map (fun d => d.parameters.length + 1) = some 5 := by decide +kernel
abbrev ws_LK_layLink : List Cond := Cond.code y_LK_layLink prog_3_method_4_code 6 (some .boolean) :: sn_ws
theorem pn_LK_layLink : (parseMethodDescriptor y_LK_layLink.desc).map (fun d => d.parameters.length + 1) = some 5 := by decide +kernel
theorem nh_LS : "SwitchedNets$LinkingSearch" ≠ "java/lang/invoke/MethodHandle" ∧ "SwitchedNets$LinkingSearch" ≠ "java/lang/invoke/VarHandle" := by decide +kernel
theorem pl_LS : plainName "SwitchedNets$LinkingSearch" = true := by decide +kernel
abbrev ws_LS_countFor : List Cond := Cond.code y_LS_countFor prog_4_method_2_code 3 (some .int) :: sn_ws
theorem pn_LS_countFor : (parseMethodDescriptor y_LS_countFor.desc).map (fun d => d.parameters.length + 1) = some 3 := by decide +kernel
abbrev ws_LS_foundPartner : List Cond := Cond.code y_LS_foundPartner prog_4_method_3_code 3 (some .int) :: sn_ws
theorem pn_LS_foundPartner : (parseMethodDescriptor y_LS_foundPartner.desc).map (fun d => d.parameters.length + 1) = some 3 := by decide +kernel
abbrev ws_LS_assembleFound : List Cond := Cond.code y_LS_assembleFound prog_4_method_4_code 4 none :: sn_ws
theorem pn_LS_assembleFound : (parseMethodDescriptor y_LS_assembleFound.desc).map (fun d => d.parameters.length + 1) = some 4 := by decide +kernel
abbrev ws_LS_listParts : List Cond := Cond.code y_LS_listParts prog_4_method_5_code 4 none :: sn_ws
theorem pn_LS_listParts : (parseMethodDescriptor y_LS_listParts.desc).map (fun d => d.parameters.length + 1) = some 4 := by decide +kernel
abbrev ws_LS_canBeTree : List Cond := Cond.code y_LS_canBeTree prog_4_method_6_code 1 (some .boolean) :: sn_ws
theorem pn_LS_canBeTree : (parseMethodDescriptor y_LS_canBeTree.desc).map (fun d => d.parameters.length + 1) = some 1 := by decide +kernel
abbrev ws_LS_pairUp : List Cond := Cond.code y_LS_pairUp prog_4_method_7_code 5 none :: sn_ws
theorem pn_LS_pairUp : (parseMethodDescriptor y_LS_pairUp.desc).map (fun d => d.parameters.length + 1) = some 3 := by decide +kernel
abbrev ws_LS_firstAlone : List Cond := Cond.code y_LS_firstAlone prog_4_method_8_code 2 (some .int) :: sn_ws
theorem pn_LS_firstAlone : (parseMethodDescriptor y_LS_firstAlone.desc).map (fun d => d.parameters.length + 1) = some 1 := by decide +kernel
abbrev ws_LS_assemble : List Cond := Cond.code y_LS_assemble prog_4_method_9_code 8 none :: sn_ws
theorem pn_LS_assemble : (parseMethodDescriptor y_LS_assemble.desc).map (fun d => d.parameters.length + 1) = some 3 := by decide +kernel
theorem nh_PR : "SwitchedNets$Proof" ≠ "java/lang/invoke/MethodHandle" ∧ "SwitchedNets$Proof" ≠ "java/lang/invoke/VarHandle" := by decide +kernel
theorem pl_PR : plainName "SwitchedNets$Proof" = true := by decide +kernel
abbrev ws_PR_read : List Cond := Cond.code y_PR_read prog_5_method_2_code 11 none :: sn_ws
theorem pn_PR_read : (parseMethodDescriptor y_PR_read.desc).map (fun d => d.parameters.length + 1) = some 2 := by decide +kernel
abbrev ws_PR_allLinks : List Cond := Cond.code y_PR_allLinks prog_5_method_3_code 4 (some .long) :: sn_ws
theorem pn_PR_allLinks : (parseMethodDescriptor y_PR_allLinks.desc).map (fun d => d.parameters.length) = some 1 := by decide +kernel
abbrev ws_PR_lastRule : List Cond := Cond.code y_PR_lastRule prog_5_method_4_code 7 (some .int) :: sn_ws
theorem pn_PR_lastRule : (parseMethodDescriptor y_PR_lastRule.desc).map (fun d => d.parameters.length + 1) = some 3 := by decide +kernel
abbrev ws_PR_isLowest : List Cond := Cond.code y_PR_isLowest prog_5_method_5_code 5 (some .boolean) :: sn_ws
theorem pn_PR_isLowest : (parseMethodDescriptor y_PR_isLowest.desc).map (fun d => d.parameters.length) = some 3 := by decide +kernel
abbrev ws_PR_splits : List Cond := Cond.code y_PR_splits prog_5_method_6_code 7 (some .boolean) :: sn_ws
theorem pn_PR_splits : (parseMethodDescriptor y_PR_splits.desc).map (fun d => d.parameters.length + 1) = some 4 := by decide +kernel
abbrev ws_PR_reach : List Cond := Cond.code y_PR_reach prog_5_method_7_code 7 (some .long) :: sn_ws
theorem pn_PR_reach : (parseMethodDescriptor y_PR_reach.desc).map (fun d => d.parameters.length + 1) = some 4 := by decide +kernel
abbrev ws_PR_enter : List Cond := Cond.code y_PR_enter prog_5_method_8_code 4 none :: sn_ws
theorem pn_PR_enter : (parseMethodDescriptor y_PR_enter.desc).map (fun d => d.parameters.length + 1) = some 3 := by decide +kernel
abbrev ws_PR_bit : List Cond := Cond.code y_PR_bit prog_5_method_9_code 1 (some .long) :: sn_ws
theorem pn_PR_bit : (parseMethodDescriptor y_PR_bit.desc).map (fun d => d.parameters.length) = some 1 := by decide +kernel
abbrev ws_PR_isIn : List Cond := Cond.code y_PR_isIn prog_5_method_10_code 3 (some .boolean) :: sn_ws
theorem pn_PR_isIn : (parseMethodDescriptor y_PR_isIn.desc).map (fun d => d.parameters.length) = some 2 := by decide +kernel
theorem nh_ST : "SwitchedNets$Structure" ≠ "java/lang/invoke/MethodHandle" ∧ "SwitchedNets$Structure" ≠ "java/lang/invoke/VarHandle" := by decide +kernel
theorem pl_ST : plainName "SwitchedNets$Structure" = true := by decide +kernel
abbrev ws_ST_empty : List Cond := Cond.code y_ST_empty prog_6_method_2_code 1 none :: sn_ws
theorem pn_ST_empty : (parseMethodDescriptor y_ST_empty.desc).map (fun d => d.parameters.length + 1) = some 1 := by decide +kernel
abbrev ws_ST_copyFrom : List Cond := Cond.code y_ST_copyFrom prog_6_method_3_code 2 none :: sn_ws
theorem pn_ST_copyFrom : (parseMethodDescriptor y_ST_copyFrom.desc).map (fun d => d.parameters.length + 1) = some 2 := by decide +kernel
abbrev ws_ST_hasLink : List Cond := Cond.code y_ST_hasLink prog_6_method_4_code 2 (some .boolean) :: sn_ws
theorem pn_ST_hasLink : (parseMethodDescriptor y_ST_hasLink.desc).map (fun d => d.parameters.length + 1) = some 2 := by decide +kernel
abbrev ws_ST_hasEdge : List Cond := Cond.code y_ST_hasEdge prog_6_method_5_code 2 (some .boolean) :: sn_ws
theorem pn_ST_hasEdge : (parseMethodDescriptor y_ST_hasEdge.desc).map (fun d => d.parameters.length + 1) = some 2 := by decide +kernel
abbrev ws_ST_isFree : List Cond := Cond.code y_ST_isFree prog_6_method_6_code 2 (some .boolean) :: sn_ws
theorem pn_ST_isFree : (parseMethodDescriptor y_ST_isFree.desc).map (fun d => d.parameters.length + 1) = some 2 := by decide +kernel
abbrev ws_ST_isComplete : List Cond := Cond.code y_ST_isComplete prog_6_method_7_code 2 (some .boolean) :: sn_ws
theorem pn_ST_isComplete : (parseMethodDescriptor y_ST_isComplete.desc).map (fun d => d.parameters.length + 1) = some 1 := by decide +kernel
abbrev ws_ST_hasRoomFor : List Cond := Cond.code y_ST_hasRoomFor prog_6_method_8_code 3 (some .boolean) :: sn_ws
theorem pn_ST_hasRoomFor : (parseMethodDescriptor y_ST_hasRoomFor.desc).map (fun d => d.parameters.length + 1) = some 2 := by decide +kernel
abbrev ws_ST_addAxiom : List Cond := Cond.code y_ST_addAxiom prog_6_method_9_code 4 (some .int) :: sn_ws
theorem pn_ST_addAxiom : (parseMethodDescriptor y_ST_addAxiom.desc).map (fun d => d.parameters.length + 1) = some 3 := by decide +kernel
abbrev ws_ST_addJoin : List Cond := Cond.code y_ST_addJoin prog_6_method_10_code 6 (some .int) :: sn_ws
theorem pn_ST_addJoin : (parseMethodDescriptor y_ST_addJoin.desc).map (fun d => d.parameters.length + 1) = some 5 := by decide +kernel
abbrev ws_ST_addCut : List Cond := Cond.code y_ST_addCut prog_6_method_11_code 4 (some .int) :: sn_ws
theorem pn_ST_addCut : (parseMethodDescriptor y_ST_addCut.desc).map (fun d => d.parameters.length + 1) = some 3 := by decide +kernel
abbrev ws_ST_nameEdge : List Cond := Cond.code y_ST_nameEdge prog_6_method_12_code 3 (some .int) :: sn_ws
theorem pn_ST_nameEdge : (parseMethodDescriptor y_ST_nameEdge.desc).map (fun d => d.parameters.length + 1) = some 2 := by decide +kernel
abbrev ws_ST_cutAt : List Cond := Cond.code y_ST_cutAt prog_6_method_13_code 4 (some .int) :: sn_ws
theorem pn_ST_cutAt : (parseMethodDescriptor y_ST_cutAt.desc).map (fun d => d.parameters.length + 1) = some 2 := by decide +kernel
abbrev ws_ST_reduceCut : List Cond := Cond.code y_ST_reduceCut prog_6_method_14_code 4 (some .boolean) :: sn_ws
theorem pn_ST_reduceCut : (parseMethodDescriptor y_ST_reduceCut.desc).map (fun d => d.parameters.length + 1) = some 2 := by decide +kernel
abbrev ws_ST_addLink : List Cond := Cond.code y_ST_addLink prog_6_method_15_code 3 (some .int) :: sn_ws
theorem pn_ST_addLink : (parseMethodDescriptor y_ST_addLink.desc).map (fun d => d.parameters.length + 1) = some 2 := by decide +kernel
abbrev ws_ST_addEdge : List Cond := Cond.code y_ST_addEdge prog_6_method_16_code 4 (some .int) :: sn_ws
theorem pn_ST_addEdge : (parseMethodDescriptor y_ST_addEdge.desc).map (fun d => d.parameters.length + 1) = some 3 := by decide +kernel
abbrev ws_ST_takePremises : List Cond := Cond.code y_ST_takePremises prog_6_method_17_code 4 none :: sn_ws
theorem pn_ST_takePremises : (parseMethodDescriptor y_ST_takePremises.desc).map (fun d => d.parameters.length + 1) = some 4 := by decide +kernel
abbrev ws_ST_passAxiom : List Cond := Cond.code y_ST_passAxiom prog_6_method_18_code 6 none :: sn_ws
theorem pn_ST_passAxiom : (parseMethodDescriptor y_ST_passAxiom.desc).map (fun d => d.parameters.length + 1) = some 4 := by decide +kernel
abbrev ws_ST_takePlace : List Cond := Cond.code y_ST_takePlace prog_6_method_19_code 4 none :: sn_ws
theorem pn_ST_takePlace : (parseMethodDescriptor y_ST_takePlace.desc).map (fun d => d.parameters.length + 1) = some 3 := by decide +kernel
abbrev ws_ST_splitCut : List Cond := Cond.code y_ST_splitCut prog_6_method_20_code 6 (some .boolean) :: sn_ws
theorem pn_ST_splitCut : (parseMethodDescriptor y_ST_splitCut.desc).map (fun d => d.parameters.length + 1) = some 4 := by decide +kernel
abbrev ws_ST_removeLink : List Cond := Cond.code y_ST_removeLink prog_6_method_21_code 2 none :: sn_ws
theorem pn_ST_removeLink : (parseMethodDescriptor y_ST_removeLink.desc).map (fun d => d.parameters.length + 1) = some 2 := by decide +kernel
theorem nh_SW : "SwitchedNets$Switchings" ≠ "java/lang/invoke/MethodHandle" ∧ "SwitchedNets$Switchings" ≠ "java/lang/invoke/VarHandle" := by decide +kernel
theorem pl_SW : plainName "SwitchedNets$Switchings" = true := by decide +kernel
abbrev ws_SW_weigh : List Cond := Cond.code y_SW_weigh prog_7_method_2_code 5 (some .int) :: sn_ws
theorem pn_SW_weigh : (parseMethodDescriptor y_SW_weigh.desc).map (fun d => d.parameters.length + 1) = some 2 := by decide +kernel
abbrev ws_SW_joinWithoutPars : List Cond := Cond.code y_SW_joinWithoutPars prog_7_method_3_code 5 none :: sn_ws
theorem pn_SW_joinWithoutPars : (parseMethodDescriptor y_SW_joinWithoutPars.desc).map (fun d => d.parameters.length + 1) = some 2 := by decide +kernel
abbrev ws_SW_lastChanged : List Cond := Cond.code y_SW_lastChanged prog_7_method_4_code 3 (some .int) :: sn_ws
theorem pn_SW_lastChanged : (parseMethodDescriptor y_SW_lastChanged.desc).map (fun d => d.parameters.length) = some 2 := by decide +kernel
abbrev ws_SW_choose : List Cond := Cond.code y_SW_choose prog_7_method_5_code 5 none :: sn_ws
theorem pn_SW_choose : (parseMethodDescriptor y_SW_choose.desc).map (fun d => d.parameters.length + 1) = some 4 := by decide +kernel
abbrev ws_SW_join : List Cond := Cond.code y_SW_join prog_7_method_6_code 6 none :: sn_ws
theorem pn_SW_join : (parseMethodDescriptor y_SW_join.desc).map (fun d => d.parameters.length + 1) = some 4 := by decide +kernel
abbrev ws_SW_rootOf : List Cond := Cond.code y_SW_rootOf prog_7_method_7_code 4 (some .int) :: sn_ws
theorem pn_SW_rootOf : (parseMethodDescriptor y_SW_rootOf.desc).map (fun d => d.parameters.length) = some 2 := by decide +kernel
theorem nh_SN : "SwitchedNets" ≠ "java/lang/invoke/MethodHandle" ∧ "SwitchedNets" ≠ "java/lang/invoke/VarHandle" := by decide +kernel
theorem pl_SN : plainName "SwitchedNets" = true := by decide +kernel
abbrev ws_SN_atom : List Cond := Cond.code y_SN_atom prog_1_method_2_code 4 (some .int) :: sn_ws
theorem pn_SN_atom : (parseMethodDescriptor y_SN_atom.desc).map (fun d => d.parameters.length + 1) = some 3 := by decide +kernel
abbrev ws_SN_pair : List Cond := Cond.code y_SN_pair prog_1_method_3_code 5 (some .int) :: sn_ws
theorem pn_SN_pair : (parseMethodDescriptor y_SN_pair.desc).map (fun d => d.parameters.length + 1) = some 4 := by decide +kernel
abbrev ws_SN_dual : List Cond := Cond.code y_SN_dual prog_1_method_4_code 2 (some .int) :: sn_ws
theorem pn_SN_dual : (parseMethodDescriptor y_SN_dual.desc).map (fun d => d.parameters.length + 1) = some 2 := by decide +kernel
abbrev ws_SN_formula : List Cond := Cond.code y_SN_formula prog_1_method_5_code 3 (some .int) :: sn_ws
theorem pn_SN_formula : (parseMethodDescriptor y_SN_formula.desc).map (fun d => d.parameters.length + 1) = some 3 := by decide +kernel
abbrev ws_SN_clear : List Cond := Cond.code y_SN_clear prog_1_method_6_code 2 (some .int) :: sn_ws
theorem pn_SN_clear : (parseMethodDescriptor y_SN_clear.desc).map (fun d => d.parameters.length + 1) = some 1 := by decide +kernel
abbrev ws_SN_axiom : List Cond := Cond.code y_SN_axiom prog_1_method_7_code 2 (some .int) :: sn_ws
theorem pn_SN_axiom : (parseMethodDescriptor y_SN_axiom.desc).map (fun d => d.parameters.length + 1) = some 2 := by decide +kernel
abbrev ws_SN_link : List Cond := Cond.code y_SN_link prog_1_method_8_code 7 (some .int) :: sn_ws
theorem pn_SN_link : (parseMethodDescriptor y_SN_link.desc).map (fun d => d.parameters.length + 1) = some 4 := by decide +kernel
abbrev ws_SN_cut : List Cond := Cond.code y_SN_cut prog_1_method_9_code 3 (some .int) :: sn_ws
theorem pn_SN_cut : (parseMethodDescriptor y_SN_cut.desc).map (fun d => d.parameters.length + 1) = some 3 := by decide +kernel
abbrev ws_SN_conclude : List Cond := Cond.code y_SN_conclude prog_1_method_10_code 2 (some .int) :: sn_ws
theorem pn_SN_conclude : (parseMethodDescriptor y_SN_conclude.desc).map (fun d => d.parameters.length + 1) = some 2 := by decide +kernel
abbrev ws_SN_look : List Cond := Cond.code y_SN_look prog_1_method_11_code 3 (some .int) :: sn_ws
theorem pn_SN_look : (parseMethodDescriptor y_SN_look.desc).map (fun d => d.parameters.length + 1) = some 3 := by decide +kernel
abbrev ws_SN_type : List Cond := Cond.code y_SN_type prog_1_method_12_code 2 (some .int) :: sn_ws
theorem pn_SN_type : (parseMethodDescriptor y_SN_type.desc).map (fun d => d.parameters.length + 1) = some 2 := by decide +kernel
abbrev ws_SN_conclusion : List Cond := Cond.code y_SN_conclusion prog_1_method_13_code 2 (some .int) :: sn_ws
theorem pn_SN_conclusion : (parseMethodDescriptor y_SN_conclusion.desc).map (fun d => d.parameters.length + 1) = some 2 := by decide +kernel
abbrev ws_SN_links : List Cond := Cond.code y_SN_links prog_1_method_14_code 1 (some .int) :: sn_ws
theorem pn_SN_links : (parseMethodDescriptor y_SN_links.desc).map (fun d => d.parameters.length + 1) = some 1 := by decide +kernel
abbrev ws_SN_judge : List Cond := Cond.code y_SN_judge prog_1_method_15_code 1 (some .int) :: sn_ws
theorem pn_SN_judge : (parseMethodDescriptor y_SN_judge.desc).map (fun d => d.parameters.length + 1) = some 1 := by decide +kernel
abbrev ws_SN_fault : List Cond := Cond.code y_SN_fault prog_1_method_16_code 1 (some .int) :: sn_ws
theorem pn_SN_fault : (parseMethodDescriptor y_SN_fault.desc).map (fun d => d.parameters.length + 1) = some 1 := by decide +kernel
abbrev ws_SN_cuts : List Cond := Cond.code y_SN_cuts prog_1_method_17_code 1 (some .int) :: sn_ws
theorem pn_SN_cuts : (parseMethodDescriptor y_SN_cuts.desc).map (fun d => d.parameters.length + 1) = some 1 := by decide +kernel
abbrev ws_SN_reduce : List Cond := Cond.code y_SN_reduce prog_1_method_18_code 3 (some .boolean) :: sn_ws
theorem pn_SN_reduce : (parseMethodDescriptor y_SN_reduce.desc).map (fun d => d.parameters.length + 1) = some 2 := by decide +kernel
abbrev ws_SN_normalise : List Cond := Cond.code y_SN_normalise prog_1_method_19_code 3 (some .int) :: sn_ws
theorem pn_SN_normalise : (parseMethodDescriptor y_SN_normalise.desc).map (fun d => d.parameters.length + 1) = some 2 := by decide +kernel
abbrev ws_SN_keep : List Cond := Cond.code y_SN_keep prog_1_method_20_code 1 none :: sn_ws
theorem pn_SN_keep : (parseMethodDescriptor y_SN_keep.desc).map (fun d => d.parameters.length + 1) = some 1 := by decide +kernel
abbrev ws_SN_same : List Cond := Cond.code y_SN_same prog_1_method_21_code 1 (some .boolean) :: sn_ws
theorem pn_SN_same : (parseMethodDescriptor y_SN_same.desc).map (fun d => d.parameters.length + 1) = some 1 := by decide +kernel
abbrev ws_SN_rule : List Cond := Cond.code y_SN_rule prog_1_method_22_code 2 (some .int) :: sn_ws
theorem pn_SN_rule : (parseMethodDescriptor y_SN_rule.desc).map (fun d => d.parameters.length + 1) = some 2 := by decide +kernel
abbrev ws_SN_linkings : List Cond := Cond.code y_SN_linkings prog_1_method_23_code 2 (some .int) :: sn_ws
theorem pn_SN_linkings : (parseMethodDescriptor y_SN_linkings.desc).map (fun d => d.parameters.length + 1) = some 2 := by decide +kernel
abbrev ws_SN_partner : List Cond := Cond.code y_SN_partner prog_1_method_24_code 4 (some .int) :: sn_ws
theorem pn_SN_partner : (parseMethodDescriptor y_SN_partner.desc).map (fun d => d.parameters.length + 1) = some 4 := by decide +kernel
abbrev ws_SN_build : List Cond := Cond.code y_SN_build prog_1_method_25_code 3 (some .int) :: sn_ws
theorem pn_SN_build : (parseMethodDescriptor y_SN_build.desc).map (fun d => d.parameters.length + 1) = some 3 := by decide +kernel
theorem nh_MD : "SwitchedNetsModel" ≠ "java/lang/invoke/MethodHandle" ∧ "SwitchedNetsModel" ≠ "java/lang/invoke/VarHandle" := by decide +kernel
theorem pl_MD : plainName "SwitchedNetsModel" = true := by decide +kernel
abbrev ws_MD_thrown : List Cond := Cond.code y_MD_thrown prog_9_method_2_code 1 (some .int) :: sn_ws
theorem pn_MD_thrown : (parseMethodDescriptor y_MD_thrown.desc).map (fun d => d.parameters.length + 1) = some 1 := by decide +kernel
abbrev ws_MD_isFormula : List Cond := Cond.code y_MD_isFormula prog_9_method_3_code 2 (some .boolean) :: sn_ws
theorem pn_MD_isFormula : (parseMethodDescriptor y_MD_isFormula.desc).map (fun d => d.parameters.length + 1) = some 2 := by decide +kernel
abbrev ws_MD_find : List Cond := Cond.code y_MD_find prog_9_method_4_code 6 (some .int) :: sn_ws
theorem pn_MD_find : (parseMethodDescriptor y_MD_find.desc).map (fun d => d.parameters.length + 1) = some 4 := by decide +kernel
abbrev ws_MD_make : List Cond := Cond.code y_MD_make prog_9_method_5_code 5 (some .int) :: sn_ws
theorem pn_MD_make : (parseMethodDescriptor y_MD_make.desc).map (fun d => d.parameters.length + 1) = some 4 := by decide +kernel
abbrev ws_MD_findDuals : List Cond := Cond.code y_MD_findDuals prog_9_method_6_code 4 none :: sn_ws
theorem pn_MD_findDuals : (parseMethodDescriptor y_MD_findDuals.desc).map (fun d => d.parameters.length + 1) = some 1 := by decide +kernel
abbrev ws_MD_makeDual : List Cond := Cond.code y_MD_makeDual prog_9_method_7_code 6 (some .int) :: sn_ws
theorem pn_MD_makeDual : (parseMethodDescriptor y_MD_makeDual.desc).map (fun d => d.parameters.length + 1) = some 2 := by decide +kernel
abbrev ws_MD_atom : List Cond := Cond.code y_MD_atom prog_9_method_8_code 4 (some .int) :: sn_ws
theorem pn_MD_atom : (parseMethodDescriptor y_MD_atom.desc).map (fun d => d.parameters.length + 1) = some 3 := by decide +kernel
abbrev ws_MD_pair : List Cond := Cond.code y_MD_pair prog_9_method_9_code 5 (some .int) :: sn_ws
theorem pn_MD_pair : (parseMethodDescriptor y_MD_pair.desc).map (fun d => d.parameters.length + 1) = some 4 := by decide +kernel
abbrev ws_MD_dual : List Cond := Cond.code y_MD_dual prog_9_method_10_code 3 (some .int) :: sn_ws
theorem pn_MD_dual : (parseMethodDescriptor y_MD_dual.desc).map (fun d => d.parameters.length + 1) = some 2 := by decide +kernel
abbrev ws_MD_formula : List Cond := Cond.code y_MD_formula prog_9_method_11_code 3 (some .int) :: sn_ws
theorem pn_MD_formula : (parseMethodDescriptor y_MD_formula.desc).map (fun d => d.parameters.length + 1) = some 3 := by decide +kernel
abbrev ws_MD_empty : List Cond := Cond.code y_MD_empty prog_9_method_12_code 2 none :: sn_ws
theorem pn_MD_empty : (parseMethodDescriptor y_MD_empty.desc).map (fun d => d.parameters.length + 1) = some 2 := by decide +kernel
abbrev ws_MD_copy : List Cond := Cond.code y_MD_copy prog_9_method_13_code 4 none :: sn_ws
theorem pn_MD_copy : (parseMethodDescriptor y_MD_copy.desc).map (fun d => d.parameters.length + 1) = some 3 := by decide +kernel
abbrev ws_MD_count : List Cond := Cond.code y_MD_count prog_9_method_14_code 6 (some .int) :: sn_ws
theorem pn_MD_count : (parseMethodDescriptor y_MD_count.desc).map (fun d => d.parameters.length + 1) = some 3 := by decide +kernel
abbrev ws_MD_isEdge : List Cond := Cond.code y_MD_isEdge prog_9_method_15_code 3 (some .boolean) :: sn_ws
theorem pn_MD_isEdge : (parseMethodDescriptor y_MD_isEdge.desc).map (fun d => d.parameters.length + 1) = some 3 := by decide +kernel
abbrev ws_MD_isFree : List Cond := Cond.code y_MD_isFree prog_9_method_16_code 3 (some .boolean) :: sn_ws
theorem pn_MD_isFree : (parseMethodDescriptor y_MD_isFree.desc).map (fun d => d.parameters.length + 1) = some 3 := by decide +kernel
abbrev ws_MD_addEdge : List Cond := Cond.code y_MD_addEdge prog_9_method_17_code 5 (some .int) :: sn_ws
theorem pn_MD_addEdge : (parseMethodDescriptor y_MD_addEdge.desc).map (fun d => d.parameters.length + 1) = some 4 := by decide +kernel
abbrev ws_MD_addLink : List Cond := Cond.code y_MD_addLink prog_9_method_18_code 6 (some .int) :: sn_ws
theorem pn_MD_addLink : (parseMethodDescriptor y_MD_addLink.desc).map (fun d => d.parameters.length + 1) = some 5 := by decide +kernel
abbrev ws_MD_addAxiom : List Cond := Cond.code y_MD_addAxiom prog_9_method_19_code 5 (some .int) :: sn_ws
theorem pn_MD_addAxiom : (parseMethodDescriptor y_MD_addAxiom.desc).map (fun d => d.parameters.length + 1) = some 4 := by decide +kernel
abbrev ws_MD_addPair : List Cond := Cond.code y_MD_addPair prog_9_method_20_code 7 (some .int) :: sn_ws
theorem pn_MD_addPair : (parseMethodDescriptor y_MD_addPair.desc).map (fun d => d.parameters.length + 1) = some 6 := by decide +kernel
abbrev ws_MD_name : List Cond := Cond.code y_MD_name prog_9_method_21_code 3 none :: sn_ws
theorem pn_MD_name : (parseMethodDescriptor y_MD_name.desc).map (fun d => d.parameters.length + 1) = some 3 := by decide +kernel
abbrev ws_MD_clear : List Cond := Cond.code y_MD_clear prog_9_method_22_code 2 (some .int) :: sn_ws
theorem pn_MD_clear : (parseMethodDescriptor y_MD_clear.desc).map (fun d => d.parameters.length + 1) = some 1 := by decide +kernel
abbrev ws_MD_hasRoom : List Cond := Cond.code y_MD_hasRoom prog_9_method_23_code 2 (some .boolean) :: sn_ws
theorem pn_MD_hasRoom : (parseMethodDescriptor y_MD_hasRoom.desc).map (fun d => d.parameters.length + 1) = some 2 := by decide +kernel
abbrev ws_MD_axiom : List Cond := Cond.code y_MD_axiom prog_9_method_24_code 3 (some .int) :: sn_ws
theorem pn_MD_axiom : (parseMethodDescriptor y_MD_axiom.desc).map (fun d => d.parameters.length + 1) = some 2 := by decide +kernel
abbrev ws_MD_link : List Cond := Cond.code y_MD_link prog_9_method_25_code 5 (some .int) :: sn_ws
theorem pn_MD_link : (parseMethodDescriptor y_MD_link.desc).map (fun d => d.parameters.length + 1) = some 4 := by decide +kernel
abbrev ws_MD_cut : List Cond := Cond.code y_MD_cut prog_9_method_26_code 4 (some .int) :: sn_ws
theorem pn_MD_cut : (parseMethodDescriptor y_MD_cut.desc).map (fun d => d.parameters.length + 1) = some 3 := by decide +kernel
abbrev ws_MD_conclude : List Cond := Cond.code y_MD_conclude prog_9_method_27_code 2 (some .int) :: sn_ws
theorem pn_MD_conclude : (parseMethodDescriptor y_MD_conclude.desc).map (fun d => d.parameters.length + 1) = some 2 := by decide +kernel
abbrev ws_MD_isLink : List Cond := Cond.code y_MD_isLink prog_9_method_28_code 2 (some .boolean) :: sn_ws
theorem pn_MD_isLink : (parseMethodDescriptor y_MD_isLink.desc).map (fun d => d.parameters.length + 1) = some 2 := by decide +kernel
abbrev ws_MD_look : List Cond := Cond.code y_MD_look prog_9_method_29_code 3 (some .int) :: sn_ws
theorem pn_MD_look : (parseMethodDescriptor y_MD_look.desc).map (fun d => d.parameters.length + 1) = some 3 := by decide +kernel
abbrev ws_MD_type : List Cond := Cond.code y_MD_type prog_9_method_30_code 2 (some .int) :: sn_ws
theorem pn_MD_type : (parseMethodDescriptor y_MD_type.desc).map (fun d => d.parameters.length + 1) = some 2 := by decide +kernel
abbrev ws_MD_conclusion : List Cond := Cond.code y_MD_conclusion prog_9_method_31_code 2 (some .int) :: sn_ws
theorem pn_MD_conclusion : (parseMethodDescriptor y_MD_conclusion.desc).map (fun d => d.parameters.length + 1) = some 2 := by decide +kernel
abbrev ws_MD_links : List Cond := Cond.code y_MD_links prog_9_method_32_code 1 (some .int) :: sn_ws
theorem pn_MD_links : (parseMethodDescriptor y_MD_links.desc).map (fun d => d.parameters.length + 1) = some 1 := by decide +kernel
abbrev ws_MD_root : List Cond := Cond.code y_MD_root prog_9_method_33_code 3 (some .int) :: sn_ws
theorem pn_MD_root : (parseMethodDescriptor y_MD_root.desc).map (fun d => d.parameters.length + 1) = some 2 := by decide +kernel
abbrev ws_MD_isJoined : List Cond := Cond.code y_MD_isJoined prog_9_method_34_code 7 (some .boolean) :: sn_ws
theorem pn_MD_isJoined : (parseMethodDescriptor y_MD_isJoined.desc).map (fun d => d.parameters.length + 1) = some 4 := by decide +kernel
abbrev ws_MD_graph : List Cond := Cond.code y_MD_graph prog_9_method_35_code 8 (some .int) :: sn_ws
theorem pn_MD_graph : (parseMethodDescriptor y_MD_graph.desc).map (fun d => d.parameters.length + 1) = some 3 := by decide +kernel
abbrev ws_MD_isComplete : List Cond := Cond.code y_MD_isComplete prog_9_method_36_code 4 (some .boolean) :: sn_ws
theorem pn_MD_isComplete : (parseMethodDescriptor y_MD_isComplete.desc).map (fun d => d.parameters.length + 1) = some 2 := by decide +kernel
abbrev ws_MD_judgeAll : List Cond := Cond.code y_MD_judgeAll prog_9_method_37_code 7 none :: sn_ws
theorem pn_MD_judgeAll : (parseMethodDescriptor y_MD_judgeAll.desc).map (fun d => d.parameters.length + 1) = some 2 := by decide +kernel
abbrev ws_MD_isNet : List Cond := Cond.code y_MD_isNet prog_9_method_38_code 2 (some .boolean) :: sn_ws
theorem pn_MD_isNet : (parseMethodDescriptor y_MD_isNet.desc).map (fun d => d.parameters.length + 1) = some 2 := by decide +kernel
abbrev ws_MD_judge : List Cond := Cond.code y_MD_judge prog_9_method_39_code 1 (some .int) :: sn_ws
theorem pn_MD_judge : (parseMethodDescriptor y_MD_judge.desc).map (fun d => d.parameters.length + 1) = some 1 := by decide +kernel
abbrev ws_MD_fault : List Cond := Cond.code y_MD_fault prog_9_method_40_code 1 (some .int) :: sn_ws
theorem pn_MD_fault : (parseMethodDescriptor y_MD_fault.desc).map (fun d => d.parameters.length + 1) = some 1 := by decide +kernel
abbrev ws_MD_cuts : List Cond := Cond.code y_MD_cuts prog_9_method_41_code 1 (some .int) :: sn_ws
theorem pn_MD_cuts : (parseMethodDescriptor y_MD_cuts.desc).map (fun d => d.parameters.length + 1) = some 1 := by decide +kernel
abbrev ws_MD_cutAt : List Cond := Cond.code y_MD_cutAt prog_9_method_42_code 5 (some .int) :: sn_ws
theorem pn_MD_cutAt : (parseMethodDescriptor y_MD_cutAt.desc).map (fun d => d.parameters.length + 1) = some 2 := by decide +kernel
abbrev ws_MD_drop : List Cond := Cond.code y_MD_drop prog_9_method_43_code 2 none :: sn_ws
theorem pn_MD_drop : (parseMethodDescriptor y_MD_drop.desc).map (fun d => d.parameters.length + 1) = some 2 := by decide +kernel
abbrev ws_MD_dropEdge : List Cond := Cond.code y_MD_dropEdge prog_9_method_44_code 2 none :: sn_ws
theorem pn_MD_dropEdge : (parseMethodDescriptor y_MD_dropEdge.desc).map (fun d => d.parameters.length + 1) = some 2 := by decide +kernel
abbrev ws_MD_slide : List Cond := Cond.code y_MD_slide prog_9_method_45_code 7 (some .boolean) :: sn_ws
theorem pn_MD_slide : (parseMethodDescriptor y_MD_slide.desc).map (fun d => d.parameters.length + 1) = some 4 := by decide +kernel
abbrev ws_MD_reduceAt : List Cond := Cond.code y_MD_reduceAt prog_9_method_46_code 7 (some .boolean) :: sn_ws
theorem pn_MD_reduceAt : (parseMethodDescriptor y_MD_reduceAt.desc).map (fun d => d.parameters.length + 1) = some 2 := by decide +kernel
abbrev ws_MD_reduce : List Cond := Cond.code y_MD_reduce prog_9_method_47_code 2 (some .boolean) :: sn_ws
theorem pn_MD_reduce : (parseMethodDescriptor y_MD_reduce.desc).map (fun d => d.parameters.length + 1) = some 2 := by decide +kernel
abbrev ws_MD_normalise : List Cond := Cond.code y_MD_normalise prog_9_method_48_code 3 (some .int) :: sn_ws
theorem pn_MD_normalise : (parseMethodDescriptor y_MD_normalise.desc).map (fun d => d.parameters.length + 1) = some 2 := by decide +kernel
abbrev ws_MD_keep : List Cond := Cond.code y_MD_keep prog_9_method_49_code 1 none :: sn_ws
theorem pn_MD_keep : (parseMethodDescriptor y_MD_keep.desc).map (fun d => d.parameters.length + 1) = some 1 := by decide +kernel
abbrev ws_MD_meet : List Cond := Cond.code y_MD_meet prog_9_method_50_code 3 (some .boolean) :: sn_ws
theorem pn_MD_meet : (parseMethodDescriptor y_MD_meet.desc).map (fun d => d.parameters.length + 1) = some 3 := by decide +kernel
abbrev ws_MD_follow : List Cond := Cond.code y_MD_follow prog_9_method_51_code 8 (some .boolean) :: sn_ws
theorem pn_MD_follow : (parseMethodDescriptor y_MD_follow.desc).map (fun d => d.parameters.length + 1) = some 2 := by decide +kernel
abbrev ws_MD_same : List Cond := Cond.code y_MD_same prog_9_method_52_code 3 (some .boolean) :: sn_ws
theorem pn_MD_same : (parseMethodDescriptor y_MD_same.desc).map (fun d => d.parameters.length + 1) = some 1 := by decide +kernel
abbrev ws_MD_isIn : List Cond := Cond.code y_MD_isIn prog_9_method_53_code 3 (some .boolean) :: sn_ws
theorem pn_MD_isIn : (parseMethodDescriptor y_MD_isIn.desc).map (fun d => d.parameters.length) = some 2 := by decide +kernel
abbrev ws_MD_isLast : List Cond := Cond.code y_MD_isLast prog_9_method_54_code 4 (some .boolean) :: sn_ws
theorem pn_MD_isLast : (parseMethodDescriptor y_MD_isLast.desc).map (fun d => d.parameters.length + 1) = some 3 := by decide +kernel
abbrev ws_MD_joined : List Cond := Cond.code y_MD_joined prog_9_method_55_code 10 (some .long) :: sn_ws
theorem pn_MD_joined : (parseMethodDescriptor y_MD_joined.desc).map (fun d => d.parameters.length + 1) = some 3 := by decide +kernel
abbrev ws_MD_firstOf : List Cond := Cond.code y_MD_firstOf prog_9_method_56_code 11 (some .int) :: sn_ws
theorem pn_MD_firstOf : (parseMethodDescriptor y_MD_firstOf.desc).map (fun d => d.parameters.length + 1) = some 2 := by decide +kernel
abbrev ws_MD_prove : List Cond := Cond.code y_MD_prove prog_9_method_57_code 8 (some .int) :: sn_ws
theorem pn_MD_prove : (parseMethodDescriptor y_MD_prove.desc).map (fun d => d.parameters.length + 1) = some 1 := by decide +kernel
abbrev ws_MD_rule : List Cond := Cond.code y_MD_rule prog_9_method_58_code 2 (some .int) :: sn_ws
theorem pn_MD_rule : (parseMethodDescriptor y_MD_rule.desc).map (fun d => d.parameters.length + 1) = some 2 := by decide +kernel
abbrev ws_MD_listAtoms : List Cond := Cond.code y_MD_listAtoms prog_9_method_59_code 4 none :: sn_ws
theorem pn_MD_listAtoms : (parseMethodDescriptor y_MD_listAtoms.desc).map (fun d => d.parameters.length + 1) = some 2 := by decide +kernel
abbrev ws_MD_fit : List Cond := Cond.code y_MD_fit prog_9_method_60_code 3 (some .boolean) :: sn_ws
theorem pn_MD_fit : (parseMethodDescriptor y_MD_fit.desc).map (fun d => d.parameters.length + 1) = some 3 := by decide +kernel
abbrev ws_MD_lay : List Cond := Cond.code y_MD_lay prog_9_method_61_code 8 none :: sn_ws
theorem pn_MD_lay : (parseMethodDescriptor y_MD_lay.desc).map (fun d => d.parameters.length + 1) = some 3 := by decide +kernel
abbrev ws_MD_edgeOf : List Cond := Cond.code y_MD_edgeOf prog_9_method_62_code 6 (some .int) :: sn_ws
theorem pn_MD_edgeOf : (parseMethodDescriptor y_MD_edgeOf.desc).map (fun d => d.parameters.length + 1) = some 3 := by decide +kernel
abbrev ws_MD_raise : List Cond := Cond.code y_MD_raise prog_9_method_63_code 5 (some .boolean) :: sn_ws
theorem pn_MD_raise : (parseMethodDescriptor y_MD_raise.desc).map (fun d => d.parameters.length + 1) = some 2 := by decide +kernel
abbrev ws_MD_fill : List Cond := Cond.code y_MD_fill prog_9_method_64_code 3 (some .boolean) :: sn_ws
theorem pn_MD_fill : (parseMethodDescriptor y_MD_fill.desc).map (fun d => d.parameters.length + 1) = some 1 := by decide +kernel
abbrev ws_MD_goTo : List Cond := Cond.code y_MD_goTo prog_9_method_65_code 5 (some .int) :: sn_ws
theorem pn_MD_goTo : (parseMethodDescriptor y_MD_goTo.desc).map (fun d => d.parameters.length + 1) = some 3 := by decide +kernel
abbrev ws_MD_linkings : List Cond := Cond.code y_MD_linkings prog_9_method_66_code 3 (some .int) :: sn_ws
theorem pn_MD_linkings : (parseMethodDescriptor y_MD_linkings.desc).map (fun d => d.parameters.length + 1) = some 2 := by decide +kernel
abbrev ws_MD_isLinking : List Cond := Cond.code y_MD_isLinking prog_9_method_67_code 3 (some .boolean) :: sn_ws
theorem pn_MD_isLinking : (parseMethodDescriptor y_MD_isLinking.desc).map (fun d => d.parameters.length + 1) = some 3 := by decide +kernel
abbrev ws_MD_partner : List Cond := Cond.code y_MD_partner prog_9_method_68_code 4 (some .int) :: sn_ws
theorem pn_MD_partner : (parseMethodDescriptor y_MD_partner.desc).map (fun d => d.parameters.length + 1) = some 4 := by decide +kernel
abbrev ws_MD_build : List Cond := Cond.code y_MD_build prog_9_method_69_code 3 (some .int) :: sn_ws
theorem pn_MD_build : (parseMethodDescriptor y_MD_build.desc).map (fun d => d.parameters.length + 1) = some 3 := by decide +kernel
theorem nh_AR : "java/util/Arrays" ≠ "java/lang/invoke/MethodHandle" ∧ "java/util/Arrays" ≠ "java/lang/invoke/VarHandle" := by decide +kernel
theorem pl_AR : plainName "java/util/Arrays" = true := by decide +kernel
abbrev ws_AR_fill : List Cond := Cond.code y_AR_fill prog_18_method_103_code 4 none :: sn_ws
theorem pn_AR_fill : (parseMethodDescriptor y_AR_fill.desc).map (fun d => d.parameters.length) = some 2 := by decide +kernel
theorem mc_min : Cond.code Lib.Math.min.name Lib.Math.min.code 2 (some .int) ∈ sn_ws := sn_i3 (List.mem_of_getElem? (i := 197) rfl) rfl
theorem mt_min : Cond.static Lib.Math.min.name ∈ sn_ws := sn_i3 (List.mem_of_getElem? (i := 196) rfl) rfl
theorem mz_min : Cond.initialized "java/lang/Math" ∈ sn_ws := sn_i1 (List.mem_of_getElem? (i := 14) rfl) rfl
theorem mn_copy : Cond.native arraycopyName ∈ sn_ws := sn_i2 (List.mem_of_getElem? (i := 147) rfl) rfl
theorem mt_copy : Cond.static arraycopyName ∈ sn_ws := sn_i2 (List.mem_of_getElem? (i := 146) rfl) rfl
theorem mz_copy : Cond.initialized "java/lang/System" ∈ sn_ws := sn_i1 (List.mem_of_getElem? (i := 15) rfl) rfl
def sn_no (_ : Nat) : Option Int64 := none
theorem sn_no_ok (own : String) : ∀ x v, sn_no x = some v → Cond.constantLong own x v ∈ sn_ws := fun _ _ h => by cases h
