/-! Printed by tools/ctor.py: the constructors. -/
theorem nq_oi : Cond.instanceMethod objectInit ∈ sn_ws := sn_i1 (List.mem_of_getElem? (i := 23) rfl) rfl
theorem nq_oc : Cond.code objectInit ⟨#[0xb1]⟩ 1 none ∈ sn_ws := sn_i1 (List.mem_of_getElem? (i := 24) rfl) rfl
theorem nq_ai : Cond.arrayClass .int ∈ sn_ws := sn_i1 (List.mem_of_getElem? (i := 66) rfl) rfl
theorem nq_ab : Cond.arrayClass .boolean ∈ sn_ws := sn_i1 (List.mem_of_getElem? (i := 67) rfl) rfl
theorem nq_al : Cond.arrayClass .long ∈ sn_ws := sn_i1 (List.mem_of_getElem? (i := 206) rfl) rfl
def y_FO_init : MethodName := ⟨"SwitchedNets$Formulas", "<init>", "()V"⟩
theorem nq_FO_mi : Cond.instanceMethod y_FO_init ∈ sn_ws := sn_i1 (List.mem_of_getElem? (i := 28) rfl) rfl
theorem nq_FO_mc : Cond.code y_FO_init prog_2_method_1_code 1 none ∈ sn_ws := sn_i1 (List.mem_of_getElem? (i := 29) rfl) rfl
theorem nq_FO_is : Cond.instantiable "SwitchedNets$Formulas" 8 ∈ sn_ws := sn_i1 (List.mem_of_getElem? (i := 26) rfl) rfl
theorem nq_FO_u : ∀ w ∈ u_ws "SwitchedNets$Formulas" T_FO 8, w ∈ sn_ws := fun w hw => by
  obtain ⟨j, hj, rfl⟩ := List.mem_map.mp hw
  exact la_FO j (List.mem_range.mp hj)
theorem nq_FO_n : y_FO_init.cls ≠ "java/lang/invoke/MethodHandle" ∧ y_FO_init.cls ≠ "java/lang/invoke/VarHandle" ∧ (parseMethodDescriptor y_FO_init.desc).map (fun d => d.parameters.length) = some 0 := ⟨nh_FO.1, nh_FO.2, by decide +kernel⟩
theorem nd_FO_0 : decode prog_2_method_1_code 0 = .ok (.aload_n 0, 1) := by decide +kernel
theorem nd_FO_1 : decode prog_2_method_1_code 1 = .ok (.invokespecial 3, 3) := by decide +kernel
theorem nq_FO_ml : Cond.methodLink "SwitchedNets$Formulas" 3 objectInit ∈ sn_ws := sn_i1 (List.mem_of_getElem? (i := 30) rfl) rfl
theorem nd_FO_4 : decode prog_2_method_1_code 4 = .ok (.aload_n 0, 1) := by decide +kernel
theorem nd_FO_5 : decode prog_2_method_1_code 5 = .ok (.bipush 80, 2) := by decide +kernel
theorem nd_FO_7 : decode prog_2_method_1_code 7 = .ok (.newarray .int, 2) := by decide +kernel
theorem nd_FO_9 : decode prog_2_method_1_code 9 = .ok (.putfield 9, 3) := by decide +kernel
theorem nd_FO_12 : decode prog_2_method_1_code 12 = .ok (.aload_n 0, 1) := by decide +kernel
theorem nd_FO_13 : decode prog_2_method_1_code 13 = .ok (.bipush 80, 2) := by decide +kernel
theorem nd_FO_15 : decode prog_2_method_1_code 15 = .ok (.newarray .int, 2) := by decide +kernel
theorem nd_FO_17 : decode prog_2_method_1_code 17 = .ok (.putfield 15, 3) := by decide +kernel
theorem nd_FO_20 : decode prog_2_method_1_code 20 = .ok (.aload_n 0, 1) := by decide +kernel
theorem nd_FO_21 : decode prog_2_method_1_code 21 = .ok (.bipush 80, 2) := by decide +kernel
theorem nd_FO_23 : decode prog_2_method_1_code 23 = .ok (.newarray .int, 2) := by decide +kernel
theorem nd_FO_25 : decode prog_2_method_1_code 25 = .ok (.putfield 18, 3) := by decide +kernel
theorem nd_FO_28 : decode prog_2_method_1_code 28 = .ok (.aload_n 0, 1) := by decide +kernel
theorem nd_FO_29 : decode prog_2_method_1_code 29 = .ok (.bipush 80, 2) := by decide +kernel
theorem nd_FO_31 : decode prog_2_method_1_code 31 = .ok (.newarray .int, 2) := by decide +kernel
theorem nd_FO_33 : decode prog_2_method_1_code 33 = .ok (.putfield 21, 3) := by decide +kernel
theorem nd_FO_36 : decode prog_2_method_1_code 36 = .ok (.aload_n 0, 1) := by decide +kernel
theorem nd_FO_37 : decode prog_2_method_1_code 37 = .ok (.bipush 80, 2) := by decide +kernel
theorem nd_FO_39 : decode prog_2_method_1_code 39 = .ok (.newarray .int, 2) := by decide +kernel
theorem nd_FO_41 : decode prog_2_method_1_code 41 = .ok (.putfield 24, 3) := by decide +kernel
theorem nd_FO_44 : decode prog_2_method_1_code 44 = .ok (.aload_n 0, 1) := by decide +kernel
theorem nd_FO_45 : decode prog_2_method_1_code 45 = .ok (.bipush 80, 2) := by decide +kernel
theorem nd_FO_47 : decode prog_2_method_1_code 47 = .ok (.newarray .boolean, 2) := by decide +kernel
theorem nd_FO_49 : decode prog_2_method_1_code 49 = .ok (.putfield 27, 3) := by decide +kernel
theorem nd_FO_52 : decode prog_2_method_1_code 52 = .ok (.aload_n 0, 1) := by decide +kernel
theorem nd_FO_53 : decode prog_2_method_1_code 53 = .ok (.bipush 80, 2) := by decide +kernel
theorem nd_FO_55 : decode prog_2_method_1_code 55 = .ok (.newarray .int, 2) := by decide +kernel
theorem nd_FO_57 : decode prog_2_method_1_code 57 = .ok (.putfield 31, 3) := by decide +kernel
theorem nd_FO_60 : decode prog_2_method_1_code 60 = .ok (.aload_n 0, 1) := by decide +kernel
theorem nd_FO_61 : decode prog_2_method_1_code 61 = .ok (.iconst 0, 1) := by decide +kernel
theorem nd_FO_62 : decode prog_2_method_1_code 62 = .ok (.putfield 34, 3) := by decide +kernel
def w0_FO (h : Nat) : va_W := [(h, .inr (0, [.null, .null, .null, .null, .null, .null, .null, .int 0]))]
def w1_FO (dA : Nat → ClassId) (h : Nat) (u : Nat → Nat) : va_W := (h, .inr (0, [.ref (u 0), .ref (u 1), .ref (u 2), .ref (u 3), .ref (u 4), .ref (u 5), .ref (u 6), .int (0)])) :: (nw_e (u 0) (dA 0) (80, .inl (fun _ => 0)) ++ (nw_e (u 1) (dA 0) (80, .inl (fun _ => 0)) ++ (nw_e (u 2) (dA 0) (80, .inl (fun _ => 0)) ++ (nw_e (u 3) (dA 0) (80, .inl (fun _ => 0)) ++ (nw_e (u 4) (dA 0) (80, .inl (fun _ => 0)) ++ (nw_e (u 5) (dA 1) (80, .inl (fun _ => 0)) ++ (nw_e (u 6) (dA 0) (80, .inl (fun _ => 0)))))))))
theorem z0_FO : ∀ j, j < 8 → defaultValue ((parseFieldDescriptor (T_FO j).2.2.1).getD .int) = vp_V [.null, .null, .null, .null, .null, .null, .null, .int 0] j := by decide +kernel
set_option maxHeartbeats 400000 in
set_option maxRecDepth 100000 in
theorem ki_FO : nw_C y_FO_init prog_2_method_1_code 1 7 560 w0_FO w1_FO := by
  refine nw_gen sn_ws (by decide +kernel) rfl ?_
  intro p l e s m args below meth c D dA h0 A ls Qf hx hb hml hts hown hin hP hK hD hmk hA hS hl hend
  have hown : s.vm.findClass "SwitchedNets$Formulas" = some m.cls := hown
  refine lv_aload_n hx hb nd_FO_0 rfl (lv_at hl 0 rfl) ?_
  refine W.objInit hx hb hown (hts _ nq_FO_ml) (hts _ nq_oi) (hts _ nq_oc) rfl (by rw [hml]; exact hl.1) rfl nd_FO_1 (Nat.le_of_ble_eq_true rfl) (Nat.le_of_ble_eq_true rfl) ?_
  refine W.eq (g2 := F0 m 4 ls []) rfl ?_
  refine lv_aload_n hx hb nd_FO_4 rfl (lv_at hl 0 rfl) ?_
  refine lv_bipush hx hb nd_FO_5 (v := 80) (by decide) ?_
  refine nw_arr (atype := .int) (ti := 0) (n := 80) (N' := 80) (a0 := (80, .inl (fun _ => 0))) (r := ("SwitchedNets$Formulas", T_FO, 8)) hx hb hts hown hin FI_FO (show sn_lk ft_FO 9 = some (0, 0) from rfl) rfl rfl hK hP hD hS hA (fun q => [.ref q, .null, .null, .null, .null, .null, .null, .int 0]) (fun _ => rfl) (fun q => [(q, .inl (dA 0, (80, .inl (fun _ => 0))))]) (fun _ => rfl) rfl nq_ai (nw_t0 hK) (fun _ => rfl) (by decide) (by decide) (by decide) (Nat.le_of_ble_eq_true rfl) (Nat.le_of_ble_eq_true rfl) (by decide +kernel) (Nat.le_of_ble_eq_true rfl) nd_FO_7 nd_FO_9 (fun q7 H locs hP hD hS => ?_)
  refine lv_aload_n hx hb nd_FO_12 rfl (lv_at hl 0 rfl) ?_
  refine lv_bipush hx hb nd_FO_13 (v := 80) (by decide) ?_
  refine nw_arr (atype := .int) (ti := 0) (n := 80) (N' := 80) (a0 := (80, .inl (fun _ => 0))) (r := ("SwitchedNets$Formulas", T_FO, 8)) hx hb hts hown hin FI_FO (show sn_lk ft_FO 15 = some (0, 1) from rfl) rfl rfl hK hP hD hS hA (fun q => [.ref q7, .ref q, .null, .null, .null, .null, .null, .int 0]) (fun _ => rfl) (fun q => [(q7, .inl (dA 0, (80, .inl (fun _ => 0)))), (q, .inl (dA 0, (80, .inl (fun _ => 0))))]) (fun _ => rfl) rfl nq_ai (nw_t0 hK) (fun _ => rfl) (by decide) (by decide) (by decide) (Nat.le_of_ble_eq_true rfl) (Nat.le_of_ble_eq_true rfl) (by decide +kernel) (Nat.le_of_ble_eq_true rfl) nd_FO_15 nd_FO_17 (fun q15 H locs hP hD hS => ?_)
  refine lv_aload_n hx hb nd_FO_20 rfl (lv_at hl 0 rfl) ?_
  refine lv_bipush hx hb nd_FO_21 (v := 80) (by decide) ?_
  refine nw_arr (atype := .int) (ti := 0) (n := 80) (N' := 80) (a0 := (80, .inl (fun _ => 0))) (r := ("SwitchedNets$Formulas", T_FO, 8)) hx hb hts hown hin FI_FO (show sn_lk ft_FO 18 = some (0, 2) from rfl) rfl rfl hK hP hD hS hA (fun q => [.ref q7, .ref q15, .ref q, .null, .null, .null, .null, .int 0]) (fun _ => rfl) (fun q => [(q7, .inl (dA 0, (80, .inl (fun _ => 0)))), (q15, .inl (dA 0, (80, .inl (fun _ => 0)))), (q, .inl (dA 0, (80, .inl (fun _ => 0))))]) (fun _ => rfl) rfl nq_ai (nw_t0 hK) (fun _ => rfl) (by decide) (by decide) (by decide) (Nat.le_of_ble_eq_true rfl) (Nat.le_of_ble_eq_true rfl) (by decide +kernel) (Nat.le_of_ble_eq_true rfl) nd_FO_23 nd_FO_25 (fun q23 H locs hP hD hS => ?_)
  refine lv_aload_n hx hb nd_FO_28 rfl (lv_at hl 0 rfl) ?_
  refine lv_bipush hx hb nd_FO_29 (v := 80) (by decide) ?_
  refine nw_arr (atype := .int) (ti := 0) (n := 80) (N' := 80) (a0 := (80, .inl (fun _ => 0))) (r := ("SwitchedNets$Formulas", T_FO, 8)) hx hb hts hown hin FI_FO (show sn_lk ft_FO 21 = some (0, 3) from rfl) rfl rfl hK hP hD hS hA (fun q => [.ref q7, .ref q15, .ref q23, .ref q, .null, .null, .null, .int 0]) (fun _ => rfl) (fun q => [(q7, .inl (dA 0, (80, .inl (fun _ => 0)))), (q15, .inl (dA 0, (80, .inl (fun _ => 0)))), (q23, .inl (dA 0, (80, .inl (fun _ => 0)))), (q, .inl (dA 0, (80, .inl (fun _ => 0))))]) (fun _ => rfl) rfl nq_ai (nw_t0 hK) (fun _ => rfl) (by decide) (by decide) (by decide) (Nat.le_of_ble_eq_true rfl) (Nat.le_of_ble_eq_true rfl) (by decide +kernel) (Nat.le_of_ble_eq_true rfl) nd_FO_31 nd_FO_33 (fun q31 H locs hP hD hS => ?_)
  refine lv_aload_n hx hb nd_FO_36 rfl (lv_at hl 0 rfl) ?_
  refine lv_bipush hx hb nd_FO_37 (v := 80) (by decide) ?_
  refine nw_arr (atype := .int) (ti := 0) (n := 80) (N' := 80) (a0 := (80, .inl (fun _ => 0))) (r := ("SwitchedNets$Formulas", T_FO, 8)) hx hb hts hown hin FI_FO (show sn_lk ft_FO 24 = some (0, 4) from rfl) rfl rfl hK hP hD hS hA (fun q => [.ref q7, .ref q15, .ref q23, .ref q31, .ref q, .null, .null, .int 0]) (fun _ => rfl) (fun q => [(q7, .inl (dA 0, (80, .inl (fun _ => 0)))), (q15, .inl (dA 0, (80, .inl (fun _ => 0)))), (q23, .inl (dA 0, (80, .inl (fun _ => 0)))), (q31, .inl (dA 0, (80, .inl (fun _ => 0)))), (q, .inl (dA 0, (80, .inl (fun _ => 0))))]) (fun _ => rfl) rfl nq_ai (nw_t0 hK) (fun _ => rfl) (by decide) (by decide) (by decide) (Nat.le_of_ble_eq_true rfl) (Nat.le_of_ble_eq_true rfl) (by decide +kernel) (Nat.le_of_ble_eq_true rfl) nd_FO_39 nd_FO_41 (fun q39 H locs hP hD hS => ?_)
  refine lv_aload_n hx hb nd_FO_44 rfl (lv_at hl 0 rfl) ?_
  refine lv_bipush hx hb nd_FO_45 (v := 80) (by decide) ?_
  refine nw_arr (atype := .boolean) (ti := 1) (n := 80) (N' := 80) (a0 := (80, .inl (fun _ => 0))) (r := ("SwitchedNets$Formulas", T_FO, 8)) hx hb hts hown hin FI_FO (show sn_lk ft_FO 27 = some (0, 5) from rfl) rfl rfl hK hP hD hS hA (fun q => [.ref q7, .ref q15, .ref q23, .ref q31, .ref q39, .ref q, .null, .int 0]) (fun _ => rfl) (fun q => [(q7, .inl (dA 0, (80, .inl (fun _ => 0)))), (q15, .inl (dA 0, (80, .inl (fun _ => 0)))), (q23, .inl (dA 0, (80, .inl (fun _ => 0)))), (q31, .inl (dA 0, (80, .inl (fun _ => 0)))), (q39, .inl (dA 0, (80, .inl (fun _ => 0)))), (q, .inl (dA 1, (80, .inl (fun _ => 0))))]) (fun _ => rfl) rfl nq_ab (nw_t1 hK) (fun _ => rfl) (by decide) (by decide) (by decide) (Nat.le_of_ble_eq_true rfl) (Nat.le_of_ble_eq_true rfl) (by decide +kernel) (Nat.le_of_ble_eq_true rfl) nd_FO_47 nd_FO_49 (fun q47 H locs hP hD hS => ?_)
  refine lv_aload_n hx hb nd_FO_52 rfl (lv_at hl 0 rfl) ?_
  refine lv_bipush hx hb nd_FO_53 (v := 80) (by decide) ?_
  refine nw_arr (atype := .int) (ti := 0) (n := 80) (N' := 80) (a0 := (80, .inl (fun _ => 0))) (r := ("SwitchedNets$Formulas", T_FO, 8)) hx hb hts hown hin FI_FO (show sn_lk ft_FO 31 = some (0, 6) from rfl) rfl rfl hK hP hD hS hA (fun q => [.ref q7, .ref q15, .ref q23, .ref q31, .ref q39, .ref q47, .ref q, .int 0]) (fun _ => rfl) (fun q => [(q7, .inl (dA 0, (80, .inl (fun _ => 0)))), (q15, .inl (dA 0, (80, .inl (fun _ => 0)))), (q23, .inl (dA 0, (80, .inl (fun _ => 0)))), (q31, .inl (dA 0, (80, .inl (fun _ => 0)))), (q39, .inl (dA 0, (80, .inl (fun _ => 0)))), (q47, .inl (dA 1, (80, .inl (fun _ => 0)))), (q, .inl (dA 0, (80, .inl (fun _ => 0))))]) (fun _ => rfl) rfl nq_ai (nw_t0 hK) (fun _ => rfl) (by decide) (by decide) (by decide) (Nat.le_of_ble_eq_true rfl) (Nat.le_of_ble_eq_true rfl) (by decide +kernel) (Nat.le_of_ble_eq_true rfl) nd_FO_55 nd_FO_57 (fun q55 H locs hP hD hS => ?_)
  refine lv_aload_n hx hb nd_FO_60 rfl (lv_at hl 0 rfl) ?_
  refine lv_iconst hx hb nd_FO_61 (v := 0) (by decide) ?_
  refine nw_put (v := .int (0)) (ty := .int) (r := ("SwitchedNets$Formulas", T_FO, 8)) hx hb hts hown hin FI_FO (show sn_lk ft_FO 34 = some (0, 7) from rfl) rfl rfl hK hP hD hS (fs1 := [.ref q7, .ref q15, .ref q23, .ref q31, .ref q39, .ref q47, .ref q55, .int (0)]) rfl (by decide +kernel) rfl rfl (Nat.le_of_ble_eq_true rfl) nd_FO_62 (fun H locs hP hD hS => ?_)
  have hP9 : va_P D sn_cl (w1_FO dA h0 (fun n => ([q7, q15, q23, q31, q39, q47, q55] : List Nat).getD n 0)) H := hP
  have hD9 : va_D A (w1_FO dA h0 (fun n => ([q7, q15, q23, q31, q39, q47, q55] : List Nat).getD n 0)) := hD
  exact hend H locs 65 _ (by decide +kernel) hP9 hD9 hS
def y_ST_init : MethodName := ⟨"SwitchedNets$Structure", "<init>", "()V"⟩
theorem nq_ST_mi : Cond.instanceMethod y_ST_init ∈ sn_ws := sn_i1 (List.mem_of_getElem? (i := 71) rfl) rfl
theorem nq_ST_mc : Cond.code y_ST_init prog_6_method_1_code 1 none ∈ sn_ws := sn_i1 (List.mem_of_getElem? (i := 72) rfl) rfl
theorem nq_ST_is : Cond.instantiable "SwitchedNets$Structure" 15 ∈ sn_ws := sn_i1 (List.mem_of_getElem? (i := 69) rfl) rfl
theorem nq_ST_u : ∀ w ∈ u_ws "SwitchedNets$Structure" T_ST 15, w ∈ sn_ws := fun w hw => by
  obtain ⟨j, hj, rfl⟩ := List.mem_map.mp hw
  exact la_ST j (List.mem_range.mp hj)
theorem nq_ST_n : y_ST_init.cls ≠ "java/lang/invoke/MethodHandle" ∧ y_ST_init.cls ≠ "java/lang/invoke/VarHandle" ∧ (parseMethodDescriptor y_ST_init.desc).map (fun d => d.parameters.length) = some 0 := ⟨nh_ST.1, nh_ST.2, by decide +kernel⟩
theorem nd_ST_0 : decode prog_6_method_1_code 0 = .ok (.aload_n 0, 1) := by decide +kernel
theorem nd_ST_1 : decode prog_6_method_1_code 1 = .ok (.invokespecial 3, 3) := by decide +kernel
theorem nq_ST_ml : Cond.methodLink "SwitchedNets$Structure" 3 objectInit ∈ sn_ws := sn_i1 (List.mem_of_getElem? (i := 73) rfl) rfl
theorem nd_ST_4 : decode prog_6_method_1_code 4 = .ok (.aload_n 0, 1) := by decide +kernel
theorem nd_ST_5 : decode prog_6_method_1_code 5 = .ok (.bipush 60, 2) := by decide +kernel
theorem nd_ST_7 : decode prog_6_method_1_code 7 = .ok (.newarray .int, 2) := by decide +kernel
theorem nd_ST_9 : decode prog_6_method_1_code 9 = .ok (.putfield 9, 3) := by decide +kernel
theorem nd_ST_12 : decode prog_6_method_1_code 12 = .ok (.aload_n 0, 1) := by decide +kernel
theorem nd_ST_13 : decode prog_6_method_1_code 13 = .ok (.bipush 60, 2) := by decide +kernel
theorem nd_ST_15 : decode prog_6_method_1_code 15 = .ok (.newarray .int, 2) := by decide +kernel
theorem nd_ST_17 : decode prog_6_method_1_code 17 = .ok (.putfield 15, 3) := by decide +kernel
theorem nd_ST_20 : decode prog_6_method_1_code 20 = .ok (.aload_n 0, 1) := by decide +kernel
theorem nd_ST_21 : decode prog_6_method_1_code 21 = .ok (.bipush 60, 2) := by decide +kernel
theorem nd_ST_23 : decode prog_6_method_1_code 23 = .ok (.newarray .int, 2) := by decide +kernel
theorem nd_ST_25 : decode prog_6_method_1_code 25 = .ok (.putfield 18, 3) := by decide +kernel
theorem nd_ST_28 : decode prog_6_method_1_code 28 = .ok (.aload_n 0, 1) := by decide +kernel
theorem nd_ST_29 : decode prog_6_method_1_code 29 = .ok (.bipush 60, 2) := by decide +kernel
theorem nd_ST_31 : decode prog_6_method_1_code 31 = .ok (.newarray .int, 2) := by decide +kernel
theorem nd_ST_33 : decode prog_6_method_1_code 33 = .ok (.putfield 21, 3) := by decide +kernel
theorem nd_ST_36 : decode prog_6_method_1_code 36 = .ok (.aload_n 0, 1) := by decide +kernel
theorem nd_ST_37 : decode prog_6_method_1_code 37 = .ok (.bipush 100, 2) := by decide +kernel
theorem nd_ST_39 : decode prog_6_method_1_code 39 = .ok (.newarray .int, 2) := by decide +kernel
theorem nd_ST_41 : decode prog_6_method_1_code 41 = .ok (.putfield 24, 3) := by decide +kernel
theorem nd_ST_44 : decode prog_6_method_1_code 44 = .ok (.aload_n 0, 1) := by decide +kernel
theorem nd_ST_45 : decode prog_6_method_1_code 45 = .ok (.bipush 100, 2) := by decide +kernel
theorem nd_ST_47 : decode prog_6_method_1_code 47 = .ok (.newarray .int, 2) := by decide +kernel
theorem nd_ST_49 : decode prog_6_method_1_code 49 = .ok (.putfield 27, 3) := by decide +kernel
theorem nd_ST_52 : decode prog_6_method_1_code 52 = .ok (.aload_n 0, 1) := by decide +kernel
theorem nd_ST_53 : decode prog_6_method_1_code 53 = .ok (.bipush 100, 2) := by decide +kernel
theorem nd_ST_55 : decode prog_6_method_1_code 55 = .ok (.newarray .int, 2) := by decide +kernel
theorem nd_ST_57 : decode prog_6_method_1_code 57 = .ok (.putfield 30, 3) := by decide +kernel
theorem nd_ST_60 : decode prog_6_method_1_code 60 = .ok (.aload_n 0, 1) := by decide +kernel
theorem nd_ST_61 : decode prog_6_method_1_code 61 = .ok (.bipush 100, 2) := by decide +kernel
theorem nd_ST_63 : decode prog_6_method_1_code 63 = .ok (.newarray .int, 2) := by decide +kernel
theorem nd_ST_65 : decode prog_6_method_1_code 65 = .ok (.putfield 33, 3) := by decide +kernel
theorem nd_ST_68 : decode prog_6_method_1_code 68 = .ok (.aload_n 0, 1) := by decide +kernel
theorem nd_ST_69 : decode prog_6_method_1_code 69 = .ok (.bipush 100, 2) := by decide +kernel
theorem nd_ST_71 : decode prog_6_method_1_code 71 = .ok (.newarray .int, 2) := by decide +kernel
theorem nd_ST_73 : decode prog_6_method_1_code 73 = .ok (.putfield 36, 3) := by decide +kernel
theorem nd_ST_76 : decode prog_6_method_1_code 76 = .ok (.aload_n 0, 1) := by decide +kernel
theorem nd_ST_77 : decode prog_6_method_1_code 77 = .ok (.iconst 0, 1) := by decide +kernel
theorem nd_ST_78 : decode prog_6_method_1_code 78 = .ok (.putfield 39, 3) := by decide +kernel
theorem nd_ST_81 : decode prog_6_method_1_code 81 = .ok (.aload_n 0, 1) := by decide +kernel
theorem nd_ST_82 : decode prog_6_method_1_code 82 = .ok (.iconst 0, 1) := by decide +kernel
theorem nd_ST_83 : decode prog_6_method_1_code 83 = .ok (.putfield 43, 3) := by decide +kernel
theorem nd_ST_86 : decode prog_6_method_1_code 86 = .ok (.aload_n 0, 1) := by decide +kernel
theorem nd_ST_87 : decode prog_6_method_1_code 87 = .ok (.iconst 0, 1) := by decide +kernel
theorem nd_ST_88 : decode prog_6_method_1_code 88 = .ok (.putfield 46, 3) := by decide +kernel
theorem nd_ST_91 : decode prog_6_method_1_code 91 = .ok (.aload_n 0, 1) := by decide +kernel
theorem nd_ST_92 : decode prog_6_method_1_code 92 = .ok (.iconst 0, 1) := by decide +kernel
theorem nd_ST_93 : decode prog_6_method_1_code 93 = .ok (.putfield 49, 3) := by decide +kernel
theorem nd_ST_96 : decode prog_6_method_1_code 96 = .ok (.aload_n 0, 1) := by decide +kernel
theorem nd_ST_97 : decode prog_6_method_1_code 97 = .ok (.iconst 0, 1) := by decide +kernel
theorem nd_ST_98 : decode prog_6_method_1_code 98 = .ok (.putfield 52, 3) := by decide +kernel
theorem nd_ST_101 : decode prog_6_method_1_code 101 = .ok (.aload_n 0, 1) := by decide +kernel
theorem nd_ST_102 : decode prog_6_method_1_code 102 = .ok (.iconst 0, 1) := by decide +kernel
theorem nd_ST_103 : decode prog_6_method_1_code 103 = .ok (.putfield 55, 3) := by decide +kernel
def w0_ST (h : Nat) : va_W := [(h, .inr (4, [.null, .null, .null, .null, .null, .null, .null, .null, .null, .int 0, .int 0, .int 0, .int 0, .int 0, .int 0]))]
def w1_ST (dA : Nat → ClassId) (h : Nat) (u : Nat → Nat) : va_W := (h, .inr (4, [.ref (u 0), .ref (u 1), .ref (u 2), .ref (u 3), .ref (u 4), .ref (u 5), .ref (u 6), .ref (u 7), .ref (u 8), .int (0), .int (0), .int (0), .int (0), .int (0), .int (0)])) :: (nw_e (u 0) (dA 0) (60, .inl (fun _ => 0)) ++ (nw_e (u 1) (dA 0) (60, .inl (fun _ => 0)) ++ (nw_e (u 2) (dA 0) (60, .inl (fun _ => 0)) ++ (nw_e (u 3) (dA 0) (60, .inl (fun _ => 0)) ++ (nw_e (u 4) (dA 0) (100, .inl (fun _ => 0)) ++ (nw_e (u 5) (dA 0) (100, .inl (fun _ => 0)) ++ (nw_e (u 6) (dA 0) (100, .inl (fun _ => 0)) ++ (nw_e (u 7) (dA 0) (100, .inl (fun _ => 0)) ++ (nw_e (u 8) (dA 0) (100, .inl (fun _ => 0)))))))))))
theorem z0_ST : ∀ j, j < 15 → defaultValue ((parseFieldDescriptor (T_ST j).2.2.1).getD .int) = vp_V [.null, .null, .null, .null, .null, .null, .null, .null, .null, .int 0, .int 0, .int 0, .int 0, .int 0, .int 0] j := by decide +kernel
set_option maxHeartbeats 400000 in
set_option maxRecDepth 100000 in
theorem ki_ST : nw_C y_ST_init prog_6_method_1_code 1 9 740 w0_ST w1_ST := by
  refine nw_gen sn_ws (by decide +kernel) rfl ?_
  intro p l e s m args below meth c D dA h0 A ls Qf hx hb hml hts hown hin hP hK hD hmk hA hS hl hend
  have hown : s.vm.findClass "SwitchedNets$Structure" = some m.cls := hown
  refine lv_aload_n hx hb nd_ST_0 rfl (lv_at hl 0 rfl) ?_
  refine W.objInit hx hb hown (hts _ nq_ST_ml) (hts _ nq_oi) (hts _ nq_oc) rfl (by rw [hml]; exact hl.1) rfl nd_ST_1 (Nat.le_of_ble_eq_true rfl) (Nat.le_of_ble_eq_true rfl) ?_
  refine W.eq (g2 := F0 m 4 ls []) rfl ?_
  refine lv_aload_n hx hb nd_ST_4 rfl (lv_at hl 0 rfl) ?_
  refine lv_bipush hx hb nd_ST_5 (v := 60) (by decide) ?_
  refine nw_arr (atype := .int) (ti := 0) (n := 60) (N' := 60) (a0 := (60, .inl (fun _ => 0))) (r := ("SwitchedNets$Structure", T_ST, 15)) hx hb hts hown hin FI_ST (show sn_lk ft_ST 9 = some (4, 0) from rfl) rfl rfl hK hP hD hS hA (fun q => [.ref q, .null, .null, .null, .null, .null, .null, .null, .null, .int 0, .int 0, .int 0, .int 0, .int 0, .int 0]) (fun _ => rfl) (fun q => [(q, .inl (dA 0, (60, .inl (fun _ => 0))))]) (fun _ => rfl) rfl nq_ai (nw_t0 hK) (fun _ => rfl) (by decide) (by decide) (by decide) (Nat.le_of_ble_eq_true rfl) (Nat.le_of_ble_eq_true rfl) (by decide +kernel) (Nat.le_of_ble_eq_true rfl) nd_ST_7 nd_ST_9 (fun q7 H locs hP hD hS => ?_)
  refine lv_aload_n hx hb nd_ST_12 rfl (lv_at hl 0 rfl) ?_
  refine lv_bipush hx hb nd_ST_13 (v := 60) (by decide) ?_
  refine nw_arr (atype := .int) (ti := 0) (n := 60) (N' := 60) (a0 := (60, .inl (fun _ => 0))) (r := ("SwitchedNets$Structure", T_ST, 15)) hx hb hts hown hin FI_ST (show sn_lk ft_ST 15 = some (4, 1) from rfl) rfl rfl hK hP hD hS hA (fun q => [.ref q7, .ref q, .null, .null, .null, .null, .null, .null, .null, .int 0, .int 0, .int 0, .int 0, .int 0, .int 0]) (fun _ => rfl) (fun q => [(q7, .inl (dA 0, (60, .inl (fun _ => 0)))), (q, .inl (dA 0, (60, .inl (fun _ => 0))))]) (fun _ => rfl) rfl nq_ai (nw_t0 hK) (fun _ => rfl) (by decide) (by decide) (by decide) (Nat.le_of_ble_eq_true rfl) (Nat.le_of_ble_eq_true rfl) (by decide +kernel) (Nat.le_of_ble_eq_true rfl) nd_ST_15 nd_ST_17 (fun q15 H locs hP hD hS => ?_)
  refine lv_aload_n hx hb nd_ST_20 rfl (lv_at hl 0 rfl) ?_
  refine lv_bipush hx hb nd_ST_21 (v := 60) (by decide) ?_
  refine nw_arr (atype := .int) (ti := 0) (n := 60) (N' := 60) (a0 := (60, .inl (fun _ => 0))) (r := ("SwitchedNets$Structure", T_ST, 15)) hx hb hts hown hin FI_ST (show sn_lk ft_ST 18 = some (4, 2) from rfl) rfl rfl hK hP hD hS hA (fun q => [.ref q7, .ref q15, .ref q, .null, .null, .null, .null, .null, .null, .int 0, .int 0, .int 0, .int 0, .int 0, .int 0]) (fun _ => rfl) (fun q => [(q7, .inl (dA 0, (60, .inl (fun _ => 0)))), (q15, .inl (dA 0, (60, .inl (fun _ => 0)))), (q, .inl (dA 0, (60, .inl (fun _ => 0))))]) (fun _ => rfl) rfl nq_ai (nw_t0 hK) (fun _ => rfl) (by decide) (by decide) (by decide) (Nat.le_of_ble_eq_true rfl) (Nat.le_of_ble_eq_true rfl) (by decide +kernel) (Nat.le_of_ble_eq_true rfl) nd_ST_23 nd_ST_25 (fun q23 H locs hP hD hS => ?_)
  refine lv_aload_n hx hb nd_ST_28 rfl (lv_at hl 0 rfl) ?_
  refine lv_bipush hx hb nd_ST_29 (v := 60) (by decide) ?_
  refine nw_arr (atype := .int) (ti := 0) (n := 60) (N' := 60) (a0 := (60, .inl (fun _ => 0))) (r := ("SwitchedNets$Structure", T_ST, 15)) hx hb hts hown hin FI_ST (show sn_lk ft_ST 21 = some (4, 3) from rfl) rfl rfl hK hP hD hS hA (fun q => [.ref q7, .ref q15, .ref q23, .ref q, .null, .null, .null, .null, .null, .int 0, .int 0, .int 0, .int 0, .int 0, .int 0]) (fun _ => rfl) (fun q => [(q7, .inl (dA 0, (60, .inl (fun _ => 0)))), (q15, .inl (dA 0, (60, .inl (fun _ => 0)))), (q23, .inl (dA 0, (60, .inl (fun _ => 0)))), (q, .inl (dA 0, (60, .inl (fun _ => 0))))]) (fun _ => rfl) rfl nq_ai (nw_t0 hK) (fun _ => rfl) (by decide) (by decide) (by decide) (Nat.le_of_ble_eq_true rfl) (Nat.le_of_ble_eq_true rfl) (by decide +kernel) (Nat.le_of_ble_eq_true rfl) nd_ST_31 nd_ST_33 (fun q31 H locs hP hD hS => ?_)
  refine lv_aload_n hx hb nd_ST_36 rfl (lv_at hl 0 rfl) ?_
  refine lv_bipush hx hb nd_ST_37 (v := 100) (by decide) ?_
  refine nw_arr (atype := .int) (ti := 0) (n := 100) (N' := 100) (a0 := (100, .inl (fun _ => 0))) (r := ("SwitchedNets$Structure", T_ST, 15)) hx hb hts hown hin FI_ST (show sn_lk ft_ST 24 = some (4, 4) from rfl) rfl rfl hK hP hD hS hA (fun q => [.ref q7, .ref q15, .ref q23, .ref q31, .ref q, .null, .null, .null, .null, .int 0, .int 0, .int 0, .int 0, .int 0, .int 0]) (fun _ => rfl) (fun q => [(q7, .inl (dA 0, (60, .inl (fun _ => 0)))), (q15, .inl (dA 0, (60, .inl (fun _ => 0)))), (q23, .inl (dA 0, (60, .inl (fun _ => 0)))), (q31, .inl (dA 0, (60, .inl (fun _ => 0)))), (q, .inl (dA 0, (100, .inl (fun _ => 0))))]) (fun _ => rfl) rfl nq_ai (nw_t0 hK) (fun _ => rfl) (by decide) (by decide) (by decide) (Nat.le_of_ble_eq_true rfl) (Nat.le_of_ble_eq_true rfl) (by decide +kernel) (Nat.le_of_ble_eq_true rfl) nd_ST_39 nd_ST_41 (fun q39 H locs hP hD hS => ?_)
  refine lv_aload_n hx hb nd_ST_44 rfl (lv_at hl 0 rfl) ?_
  refine lv_bipush hx hb nd_ST_45 (v := 100) (by decide) ?_
  refine nw_arr (atype := .int) (ti := 0) (n := 100) (N' := 100) (a0 := (100, .inl (fun _ => 0))) (r := ("SwitchedNets$Structure", T_ST, 15)) hx hb hts hown hin FI_ST (show sn_lk ft_ST 27 = some (4, 5) from rfl) rfl rfl hK hP hD hS hA (fun q => [.ref q7, .ref q15, .ref q23, .ref q31, .ref q39, .ref q, .null, .null, .null, .int 0, .int 0, .int 0, .int 0, .int 0, .int 0]) (fun _ => rfl) (fun q => [(q7, .inl (dA 0, (60, .inl (fun _ => 0)))), (q15, .inl (dA 0, (60, .inl (fun _ => 0)))), (q23, .inl (dA 0, (60, .inl (fun _ => 0)))), (q31, .inl (dA 0, (60, .inl (fun _ => 0)))), (q39, .inl (dA 0, (100, .inl (fun _ => 0)))), (q, .inl (dA 0, (100, .inl (fun _ => 0))))]) (fun _ => rfl) rfl nq_ai (nw_t0 hK) (fun _ => rfl) (by decide) (by decide) (by decide) (Nat.le_of_ble_eq_true rfl) (Nat.le_of_ble_eq_true rfl) (by decide +kernel) (Nat.le_of_ble_eq_true rfl) nd_ST_47 nd_ST_49 (fun q47 H locs hP hD hS => ?_)
  refine lv_aload_n hx hb nd_ST_52 rfl (lv_at hl 0 rfl) ?_
  refine lv_bipush hx hb nd_ST_53 (v := 100) (by decide) ?_
  refine nw_arr (atype := .int) (ti := 0) (n := 100) (N' := 100) (a0 := (100, .inl (fun _ => 0))) (r := ("SwitchedNets$Structure", T_ST, 15)) hx hb hts hown hin FI_ST (show sn_lk ft_ST 30 = some (4, 6) from rfl) rfl rfl hK hP hD hS hA (fun q => [.ref q7, .ref q15, .ref q23, .ref q31, .ref q39, .ref q47, .ref q, .null, .null, .int 0, .int 0, .int 0, .int 0, .int 0, .int 0]) (fun _ => rfl) (fun q => [(q7, .inl (dA 0, (60, .inl (fun _ => 0)))), (q15, .inl (dA 0, (60, .inl (fun _ => 0)))), (q23, .inl (dA 0, (60, .inl (fun _ => 0)))), (q31, .inl (dA 0, (60, .inl (fun _ => 0)))), (q39, .inl (dA 0, (100, .inl (fun _ => 0)))), (q47, .inl (dA 0, (100, .inl (fun _ => 0)))), (q, .inl (dA 0, (100, .inl (fun _ => 0))))]) (fun _ => rfl) rfl nq_ai (nw_t0 hK) (fun _ => rfl) (by decide) (by decide) (by decide) (Nat.le_of_ble_eq_true rfl) (Nat.le_of_ble_eq_true rfl) (by decide +kernel) (Nat.le_of_ble_eq_true rfl) nd_ST_55 nd_ST_57 (fun q55 H locs hP hD hS => ?_)
  refine lv_aload_n hx hb nd_ST_60 rfl (lv_at hl 0 rfl) ?_
  refine lv_bipush hx hb nd_ST_61 (v := 100) (by decide) ?_
  refine nw_arr (atype := .int) (ti := 0) (n := 100) (N' := 100) (a0 := (100, .inl (fun _ => 0))) (r := ("SwitchedNets$Structure", T_ST, 15)) hx hb hts hown hin FI_ST (show sn_lk ft_ST 33 = some (4, 7) from rfl) rfl rfl hK hP hD hS hA (fun q => [.ref q7, .ref q15, .ref q23, .ref q31, .ref q39, .ref q47, .ref q55, .ref q, .null, .int 0, .int 0, .int 0, .int 0, .int 0, .int 0]) (fun _ => rfl) (fun q => [(q7, .inl (dA 0, (60, .inl (fun _ => 0)))), (q15, .inl (dA 0, (60, .inl (fun _ => 0)))), (q23, .inl (dA 0, (60, .inl (fun _ => 0)))), (q31, .inl (dA 0, (60, .inl (fun _ => 0)))), (q39, .inl (dA 0, (100, .inl (fun _ => 0)))), (q47, .inl (dA 0, (100, .inl (fun _ => 0)))), (q55, .inl (dA 0, (100, .inl (fun _ => 0)))), (q, .inl (dA 0, (100, .inl (fun _ => 0))))]) (fun _ => rfl) rfl nq_ai (nw_t0 hK) (fun _ => rfl) (by decide) (by decide) (by decide) (Nat.le_of_ble_eq_true rfl) (Nat.le_of_ble_eq_true rfl) (by decide +kernel) (Nat.le_of_ble_eq_true rfl) nd_ST_63 nd_ST_65 (fun q63 H locs hP hD hS => ?_)
  refine lv_aload_n hx hb nd_ST_68 rfl (lv_at hl 0 rfl) ?_
  refine lv_bipush hx hb nd_ST_69 (v := 100) (by decide) ?_
  refine nw_arr (atype := .int) (ti := 0) (n := 100) (N' := 100) (a0 := (100, .inl (fun _ => 0))) (r := ("SwitchedNets$Structure", T_ST, 15)) hx hb hts hown hin FI_ST (show sn_lk ft_ST 36 = some (4, 8) from rfl) rfl rfl hK hP hD hS hA (fun q => [.ref q7, .ref q15, .ref q23, .ref q31, .ref q39, .ref q47, .ref q55, .ref q63, .ref q, .int 0, .int 0, .int 0, .int 0, .int 0, .int 0]) (fun _ => rfl) (fun q => [(q7, .inl (dA 0, (60, .inl (fun _ => 0)))), (q15, .inl (dA 0, (60, .inl (fun _ => 0)))), (q23, .inl (dA 0, (60, .inl (fun _ => 0)))), (q31, .inl (dA 0, (60, .inl (fun _ => 0)))), (q39, .inl (dA 0, (100, .inl (fun _ => 0)))), (q47, .inl (dA 0, (100, .inl (fun _ => 0)))), (q55, .inl (dA 0, (100, .inl (fun _ => 0)))), (q63, .inl (dA 0, (100, .inl (fun _ => 0)))), (q, .inl (dA 0, (100, .inl (fun _ => 0))))]) (fun _ => rfl) rfl nq_ai (nw_t0 hK) (fun _ => rfl) (by decide) (by decide) (by decide) (Nat.le_of_ble_eq_true rfl) (Nat.le_of_ble_eq_true rfl) (by decide +kernel) (Nat.le_of_ble_eq_true rfl) nd_ST_71 nd_ST_73 (fun q71 H locs hP hD hS => ?_)
  refine lv_aload_n hx hb nd_ST_76 rfl (lv_at hl 0 rfl) ?_
  refine lv_iconst hx hb nd_ST_77 (v := 0) (by decide) ?_
  refine nw_put (v := .int (0)) (ty := .int) (r := ("SwitchedNets$Structure", T_ST, 15)) hx hb hts hown hin FI_ST (show sn_lk ft_ST 39 = some (4, 9) from rfl) rfl rfl hK hP hD hS (fs1 := [.ref q7, .ref q15, .ref q23, .ref q31, .ref q39, .ref q47, .ref q55, .ref q63, .ref q71, .int (0), .int 0, .int 0, .int 0, .int 0, .int 0]) rfl (by decide +kernel) rfl rfl (Nat.le_of_ble_eq_true rfl) nd_ST_78 (fun H locs hP hD hS => ?_)
  refine lv_aload_n hx hb nd_ST_81 rfl (lv_at hl 0 rfl) ?_
  refine lv_iconst hx hb nd_ST_82 (v := 0) (by decide) ?_
  refine nw_put (v := .int (0)) (ty := .int) (r := ("SwitchedNets$Structure", T_ST, 15)) hx hb hts hown hin FI_ST (show sn_lk ft_ST 43 = some (4, 10) from rfl) rfl rfl hK hP hD hS (fs1 := [.ref q7, .ref q15, .ref q23, .ref q31, .ref q39, .ref q47, .ref q55, .ref q63, .ref q71, .int (0), .int (0), .int 0, .int 0, .int 0, .int 0]) rfl (by decide +kernel) rfl rfl (Nat.le_of_ble_eq_true rfl) nd_ST_83 (fun H locs hP hD hS => ?_)
  refine lv_aload_n hx hb nd_ST_86 rfl (lv_at hl 0 rfl) ?_
  refine lv_iconst hx hb nd_ST_87 (v := 0) (by decide) ?_
  refine nw_put (v := .int (0)) (ty := .int) (r := ("SwitchedNets$Structure", T_ST, 15)) hx hb hts hown hin FI_ST (show sn_lk ft_ST 46 = some (4, 11) from rfl) rfl rfl hK hP hD hS (fs1 := [.ref q7, .ref q15, .ref q23, .ref q31, .ref q39, .ref q47, .ref q55, .ref q63, .ref q71, .int (0), .int (0), .int (0), .int 0, .int 0, .int 0]) rfl (by decide +kernel) rfl rfl (Nat.le_of_ble_eq_true rfl) nd_ST_88 (fun H locs hP hD hS => ?_)
  refine lv_aload_n hx hb nd_ST_91 rfl (lv_at hl 0 rfl) ?_
  refine lv_iconst hx hb nd_ST_92 (v := 0) (by decide) ?_
  refine nw_put (v := .int (0)) (ty := .int) (r := ("SwitchedNets$Structure", T_ST, 15)) hx hb hts hown hin FI_ST (show sn_lk ft_ST 49 = some (4, 12) from rfl) rfl rfl hK hP hD hS (fs1 := [.ref q7, .ref q15, .ref q23, .ref q31, .ref q39, .ref q47, .ref q55, .ref q63, .ref q71, .int (0), .int (0), .int (0), .int (0), .int 0, .int 0]) rfl (by decide +kernel) rfl rfl (Nat.le_of_ble_eq_true rfl) nd_ST_93 (fun H locs hP hD hS => ?_)
  refine lv_aload_n hx hb nd_ST_96 rfl (lv_at hl 0 rfl) ?_
  refine lv_iconst hx hb nd_ST_97 (v := 0) (by decide) ?_
  refine nw_put (v := .int (0)) (ty := .int) (r := ("SwitchedNets$Structure", T_ST, 15)) hx hb hts hown hin FI_ST (show sn_lk ft_ST 52 = some (4, 13) from rfl) rfl rfl hK hP hD hS (fs1 := [.ref q7, .ref q15, .ref q23, .ref q31, .ref q39, .ref q47, .ref q55, .ref q63, .ref q71, .int (0), .int (0), .int (0), .int (0), .int (0), .int 0]) rfl (by decide +kernel) rfl rfl (Nat.le_of_ble_eq_true rfl) nd_ST_98 (fun H locs hP hD hS => ?_)
  refine lv_aload_n hx hb nd_ST_101 rfl (lv_at hl 0 rfl) ?_
  refine lv_iconst hx hb nd_ST_102 (v := 0) (by decide) ?_
  refine nw_put (v := .int (0)) (ty := .int) (r := ("SwitchedNets$Structure", T_ST, 15)) hx hb hts hown hin FI_ST (show sn_lk ft_ST 55 = some (4, 14) from rfl) rfl rfl hK hP hD hS (fs1 := [.ref q7, .ref q15, .ref q23, .ref q31, .ref q39, .ref q47, .ref q55, .ref q63, .ref q71, .int (0), .int (0), .int (0), .int (0), .int (0), .int (0)]) rfl (by decide +kernel) rfl rfl (Nat.le_of_ble_eq_true rfl) nd_ST_103 (fun H locs hP hD hS => ?_)
  have hP9 : va_P D sn_cl (w1_ST dA h0 (fun n => ([q7, q15, q23, q31, q39, q47, q55, q63, q71] : List Nat).getD n 0)) H := hP
  have hD9 : va_D A (w1_ST dA h0 (fun n => ([q7, q15, q23, q31, q39, q47, q55, q63, q71] : List Nat).getD n 0)) := hD
  exact hend H locs 106 _ (by decide +kernel) hP9 hD9 hS
def y_SW_init : MethodName := ⟨"SwitchedNets$Switchings", "<init>", "()V"⟩
theorem nq_SW_mi : Cond.instanceMethod y_SW_init ∈ sn_ws := sn_i1 (List.mem_of_getElem? (i := 161) rfl) rfl
theorem nq_SW_mc : Cond.code y_SW_init prog_7_method_1_code 1 none ∈ sn_ws := sn_i1 (List.mem_of_getElem? (i := 162) rfl) rfl
theorem nq_SW_is : Cond.instantiable "SwitchedNets$Switchings" 5 ∈ sn_ws := sn_i1 (List.mem_of_getElem? (i := 159) rfl) rfl
theorem nq_SW_u : ∀ w ∈ u_ws "SwitchedNets$Switchings" T_SW 5, w ∈ sn_ws := fun w hw => by
  obtain ⟨j, hj, rfl⟩ := List.mem_map.mp hw
  exact la_SW j (List.mem_range.mp hj)
theorem nq_SW_n : y_SW_init.cls ≠ "java/lang/invoke/MethodHandle" ∧ y_SW_init.cls ≠ "java/lang/invoke/VarHandle" ∧ (parseMethodDescriptor y_SW_init.desc).map (fun d => d.parameters.length) = some 0 := ⟨nh_SW.1, nh_SW.2, by decide +kernel⟩
theorem nd_SW_0 : decode prog_7_method_1_code 0 = .ok (.aload_n 0, 1) := by decide +kernel
theorem nd_SW_1 : decode prog_7_method_1_code 1 = .ok (.invokespecial 3, 3) := by decide +kernel
theorem nq_SW_ml : Cond.methodLink "SwitchedNets$Switchings" 3 objectInit ∈ sn_ws := sn_i1 (List.mem_of_getElem? (i := 163) rfl) rfl
theorem nd_SW_4 : decode prog_7_method_1_code 4 = .ok (.aload_n 0, 1) := by decide +kernel
theorem nd_SW_5 : decode prog_7_method_1_code 5 = .ok (.bipush 9, 2) := by decide +kernel
theorem nd_SW_7 : decode prog_7_method_1_code 7 = .ok (.bipush 60, 2) := by decide +kernel
theorem nq_SW_cl9 : Cond.classLink "SwitchedNets$Switchings" 9 "[[I" ∈ sn_ws := sn_i1 (List.mem_of_getElem? (i := 164) rfl) rfl
theorem nd_SW_9 : decode prog_7_method_1_code 9 = .ok (.multianewarray 9 2, 4) := by decide +kernel
theorem nd_SW_13 : decode prog_7_method_1_code 13 = .ok (.putfield 11, 3) := by decide +kernel
theorem nd_SW_16 : decode prog_7_method_1_code 16 = .ok (.aload_n 0, 1) := by decide +kernel
theorem nd_SW_17 : decode prog_7_method_1_code 17 = .ok (.bipush 9, 2) := by decide +kernel
theorem nd_SW_19 : decode prog_7_method_1_code 19 = .ok (.newarray .int, 2) := by decide +kernel
theorem nd_SW_21 : decode prog_7_method_1_code 21 = .ok (.putfield 16, 3) := by decide +kernel
theorem nd_SW_24 : decode prog_7_method_1_code 24 = .ok (.aload_n 0, 1) := by decide +kernel
theorem nd_SW_25 : decode prog_7_method_1_code 25 = .ok (.bipush 9, 2) := by decide +kernel
theorem nd_SW_27 : decode prog_7_method_1_code 27 = .ok (.newarray .boolean, 2) := by decide +kernel
theorem nd_SW_29 : decode prog_7_method_1_code 29 = .ok (.putfield 20, 3) := by decide +kernel
theorem nd_SW_32 : decode prog_7_method_1_code 32 = .ok (.aload_n 0, 1) := by decide +kernel
theorem nd_SW_33 : decode prog_7_method_1_code 33 = .ok (.bipush 8, 2) := by decide +kernel
theorem nd_SW_35 : decode prog_7_method_1_code 35 = .ok (.newarray .int, 2) := by decide +kernel
theorem nd_SW_37 : decode prog_7_method_1_code 37 = .ok (.putfield 24, 3) := by decide +kernel
theorem nd_SW_40 : decode prog_7_method_1_code 40 = .ok (.aload_n 0, 1) := by decide +kernel
theorem nd_SW_41 : decode prog_7_method_1_code 41 = .ok (.iconst (-1), 1) := by decide +kernel
theorem nd_SW_42 : decode prog_7_method_1_code 42 = .ok (.putfield 27, 3) := by decide +kernel
def w0_SW (h : Nat) : va_W := [(h, .inr (5, [.null, .null, .null, .null, .int 0]))]
def w1_SW (dA : Nat → ClassId) (h : Nat) (u : Nat → Nat) : va_W := (h, .inr (5, [.ref (u 0), .ref (u 1), .ref (u 2), .ref (u 3), .int (-1)])) :: (nw_tb dA (u 0) ++ (nw_e (u 1) (dA 0) (9, .inl (fun _ => 0)) ++ (nw_e (u 2) (dA 1) (9, .inl (fun _ => 0)) ++ (nw_e (u 3) (dA 0) (8, .inl (fun _ => 0))))))
theorem z0_SW : ∀ j, j < 5 → defaultValue ((parseFieldDescriptor (T_SW j).2.2.1).getD .int) = vp_V [.null, .null, .null, .null, .int 0] j := by decide +kernel
set_option maxHeartbeats 400000 in
set_option maxRecDepth 100000 in
theorem ki_SW : nw_C y_SW_init prog_7_method_1_code 1 13 575 w0_SW w1_SW := by
  refine nw_gen sn_ws (by decide +kernel) rfl ?_
  intro p l e s m args below meth c D dA h0 A ls Qf hx hb hml hts hown hin hP hK hD hmk hA hS hl hend
  have hown : s.vm.findClass "SwitchedNets$Switchings" = some m.cls := hown
  refine lv_aload_n hx hb nd_SW_0 rfl (lv_at hl 0 rfl) ?_
  refine W.objInit hx hb hown (hts _ nq_SW_ml) (hts _ nq_oi) (hts _ nq_oc) rfl (by rw [hml]; exact hl.1) rfl nd_SW_1 (Nat.le_of_ble_eq_true rfl) (Nat.le_of_ble_eq_true rfl) ?_
  refine W.eq (g2 := F0 m 4 ls []) rfl ?_
  refine lv_aload_n hx hb nd_SW_4 rfl (lv_at hl 0 rfl) ?_
  refine lv_bipush hx hb nd_SW_5 (v := 9) (by decide) ?_
  refine lv_bipush hx hb nd_SW_7 (v := 60) (by decide) ?_
  refine nw_tab (r := ("SwitchedNets$Switchings", T_SW, 5)) hx hb hts hown hin FI_SW (show sn_lk ft_SW 11 = some (5, 0) from rfl) rfl rfl hK hP hD hS hA (fun q => [.ref q, .null, .null, .null, .int 0]) (fun _ => rfl) hmk.1 nq_SW_cl9 nq_ai (Nat.le_of_ble_eq_true rfl) (Nat.le_of_ble_eq_true rfl) (by decide +kernel) (Nat.le_of_ble_eq_true rfl) nd_SW_9 nd_SW_13 (fun q9 H locs hP hD hS => ?_)
  refine lv_aload_n hx hb nd_SW_16 rfl (lv_at hl 0 rfl) ?_
  refine lv_bipush hx hb nd_SW_17 (v := 9) (by decide) ?_
  refine nw_arr (atype := .int) (ti := 0) (n := 9) (N' := 9) (a0 := (9, .inl (fun _ => 0))) (r := ("SwitchedNets$Switchings", T_SW, 5)) hx hb hts hown hin FI_SW (show sn_lk ft_SW 16 = some (5, 1) from rfl) rfl rfl hK hP hD hS hA (fun q => [.ref q9, .ref q, .null, .null, .int 0]) (fun _ => rfl) (fun q => (([]) ++ nw_tb dA q9) ++ nw_e q (dA 0) (9, .inl (fun _ => 0))) (fun _ => rfl) rfl nq_ai (nw_t0 hK) (fun _ => rfl) (by decide) (by decide) (by decide) (Nat.le_of_ble_eq_true rfl) (Nat.le_of_ble_eq_true rfl) (by decide +kernel) (Nat.le_of_ble_eq_true rfl) nd_SW_19 nd_SW_21 (fun q19 H locs hP hD hS => ?_)
  refine lv_aload_n hx hb nd_SW_24 rfl (lv_at hl 0 rfl) ?_
  refine lv_bipush hx hb nd_SW_25 (v := 9) (by decide) ?_
  refine nw_arr (atype := .boolean) (ti := 1) (n := 9) (N' := 9) (a0 := (9, .inl (fun _ => 0))) (r := ("SwitchedNets$Switchings", T_SW, 5)) hx hb hts hown hin FI_SW (show sn_lk ft_SW 20 = some (5, 2) from rfl) rfl rfl hK hP hD hS hA (fun q => [.ref q9, .ref q19, .ref q, .null, .int 0]) (fun _ => rfl) (fun q => ((([]) ++ nw_tb dA q9) ++ nw_e q19 (dA 0) (9, .inl (fun _ => 0))) ++ nw_e q (dA 1) (9, .inl (fun _ => 0))) (fun _ => rfl) rfl nq_ab (nw_t1 hK) (fun _ => rfl) (by decide) (by decide) (by decide) (Nat.le_of_ble_eq_true rfl) (Nat.le_of_ble_eq_true rfl) (by decide +kernel) (Nat.le_of_ble_eq_true rfl) nd_SW_27 nd_SW_29 (fun q27 H locs hP hD hS => ?_)
  refine lv_aload_n hx hb nd_SW_32 rfl (lv_at hl 0 rfl) ?_
  refine lv_bipush hx hb nd_SW_33 (v := 8) (by decide) ?_
  refine nw_arr (atype := .int) (ti := 0) (n := 8) (N' := 8) (a0 := (8, .inl (fun _ => 0))) (r := ("SwitchedNets$Switchings", T_SW, 5)) hx hb hts hown hin FI_SW (show sn_lk ft_SW 24 = some (5, 3) from rfl) rfl rfl hK hP hD hS hA (fun q => [.ref q9, .ref q19, .ref q27, .ref q, .int 0]) (fun _ => rfl) (fun q => (((([]) ++ nw_tb dA q9) ++ nw_e q19 (dA 0) (9, .inl (fun _ => 0))) ++ nw_e q27 (dA 1) (9, .inl (fun _ => 0))) ++ nw_e q (dA 0) (8, .inl (fun _ => 0))) (fun _ => rfl) rfl nq_ai (nw_t0 hK) (fun _ => rfl) (by decide) (by decide) (by decide) (Nat.le_of_ble_eq_true rfl) (Nat.le_of_ble_eq_true rfl) (by decide +kernel) (Nat.le_of_ble_eq_true rfl) nd_SW_35 nd_SW_37 (fun q35 H locs hP hD hS => ?_)
  refine lv_aload_n hx hb nd_SW_40 rfl (lv_at hl 0 rfl) ?_
  refine lv_iconst hx hb nd_SW_41 (v := -1) (by decide) ?_
  refine nw_put (v := .int (-1)) (ty := .int) (r := ("SwitchedNets$Switchings", T_SW, 5)) hx hb hts hown hin FI_SW (show sn_lk ft_SW 27 = some (5, 4) from rfl) rfl rfl hK hP hD hS (fs1 := [.ref q9, .ref q19, .ref q27, .ref q35, .int (-1)]) rfl (by decide +kernel) rfl rfl (Nat.le_of_ble_eq_true rfl) nd_SW_42 (fun H locs hP hD hS => ?_)
  have hP9 : va_P D sn_cl (w1_SW dA h0 (fun n => ([q9, q19, q27, q35] : List Nat).getD n 0)) H := hP
  have hD9 : va_D A (w1_SW dA h0 (fun n => ([q9, q19, q27, q35] : List Nat).getD n 0)) := hD
  exact hend H locs 45 _ (by decide +kernel) hP9 hD9 hS
def y_PR_init : MethodName := ⟨"SwitchedNets$Proof", "<init>", "()V"⟩
theorem nq_PR_mi : Cond.instanceMethod y_PR_init ∈ sn_ws := sn_i1 (List.mem_of_getElem? (i := 186) rfl) rfl
theorem nq_PR_mc : Cond.code y_PR_init prog_5_method_1_code 1 none ∈ sn_ws := sn_i1 (List.mem_of_getElem? (i := 187) rfl) rfl
theorem nq_PR_is : Cond.instantiable "SwitchedNets$Proof" 5 ∈ sn_ws := sn_i1 (List.mem_of_getElem? (i := 184) rfl) rfl
theorem nq_PR_u : ∀ w ∈ u_ws "SwitchedNets$Proof" T_PR 5, w ∈ sn_ws := fun w hw => by
  obtain ⟨j, hj, rfl⟩ := List.mem_map.mp hw
  exact la_PR j (List.mem_range.mp hj)
theorem nq_PR_n : y_PR_init.cls ≠ "java/lang/invoke/MethodHandle" ∧ y_PR_init.cls ≠ "java/lang/invoke/VarHandle" ∧ (parseMethodDescriptor y_PR_init.desc).map (fun d => d.parameters.length) = some 0 := ⟨nh_PR.1, nh_PR.2, by decide +kernel⟩
theorem nd_PR_0 : decode prog_5_method_1_code 0 = .ok (.aload_n 0, 1) := by decide +kernel
theorem nd_PR_1 : decode prog_5_method_1_code 1 = .ok (.invokespecial 3, 3) := by decide +kernel
theorem nq_PR_ml : Cond.methodLink "SwitchedNets$Proof" 3 objectInit ∈ sn_ws := sn_i1 (List.mem_of_getElem? (i := 188) rfl) rfl
theorem nd_PR_4 : decode prog_5_method_1_code 4 = .ok (.aload_n 0, 1) := by decide +kernel
theorem nd_PR_5 : decode prog_5_method_1_code 5 = .ok (.bipush 24, 2) := by decide +kernel
theorem nd_PR_7 : decode prog_5_method_1_code 7 = .ok (.newarray .int, 2) := by decide +kernel
theorem nd_PR_9 : decode prog_5_method_1_code 9 = .ok (.putfield 9, 3) := by decide +kernel
theorem nd_PR_12 : decode prog_5_method_1_code 12 = .ok (.aload_n 0, 1) := by decide +kernel
theorem nd_PR_13 : decode prog_5_method_1_code 13 = .ok (.bipush 25, 2) := by decide +kernel
theorem nd_PR_15 : decode prog_5_method_1_code 15 = .ok (.newarray .long, 2) := by decide +kernel
theorem nd_PR_17 : decode prog_5_method_1_code 17 = .ok (.putfield 15, 3) := by decide +kernel
theorem nd_PR_20 : decode prog_5_method_1_code 20 = .ok (.aload_n 0, 1) := by decide +kernel
theorem nd_PR_21 : decode prog_5_method_1_code 21 = .ok (.bipush 24, 2) := by decide +kernel
theorem nd_PR_23 : decode prog_5_method_1_code 23 = .ok (.newarray .int, 2) := by decide +kernel
theorem nd_PR_25 : decode prog_5_method_1_code 25 = .ok (.putfield 19, 3) := by decide +kernel
theorem nd_PR_28 : decode prog_5_method_1_code 28 = .ok (.aload_n 0, 1) := by decide +kernel
theorem nd_PR_29 : decode prog_5_method_1_code 29 = .ok (.iconst 0, 1) := by decide +kernel
theorem nd_PR_30 : decode prog_5_method_1_code 30 = .ok (.putfield 22, 3) := by decide +kernel
theorem nd_PR_33 : decode prog_5_method_1_code 33 = .ok (.aload_n 0, 1) := by decide +kernel
theorem nd_PR_34 : decode prog_5_method_1_code 34 = .ok (.lconst 0, 1) := by decide +kernel
theorem nd_PR_35 : decode prog_5_method_1_code 35 = .ok (.putfield 26, 3) := by decide +kernel
def w0_PR (h : Nat) : va_W := [(h, .inr (3, [.null, .null, .null, .int 0, .long 0]))]
def w1_PR (dA : Nat → ClassId) (h : Nat) (u : Nat → Nat) : va_W := (h, .inr (3, [.ref (u 0), .ref (u 1), .ref (u 2), .int (0), .long 0])) :: (nw_e (u 0) (dA 0) (24, .inl (fun _ => 0)) ++ (nw_e (u 1) (dA 2) (25, .inr (.inl (fun _ => 0))) ++ (nw_e (u 2) (dA 0) (24, .inl (fun _ => 0)))))
theorem z0_PR : ∀ j, j < 5 → defaultValue ((parseFieldDescriptor (T_PR j).2.2.1).getD .int) = vp_V [.null, .null, .null, .int 0, .long 0] j := by decide +kernel
set_option maxHeartbeats 400000 in
set_option maxRecDepth 100000 in
theorem ki_PR : nw_C y_PR_init prog_5_method_1_code 1 3 73 w0_PR w1_PR := by
  refine nw_gen sn_ws (by decide +kernel) rfl ?_
  intro p l e s m args below meth c D dA h0 A ls Qf hx hb hml hts hown hin hP hK hD hmk hA hS hl hend
  have hown : s.vm.findClass "SwitchedNets$Proof" = some m.cls := hown
  refine lv_aload_n hx hb nd_PR_0 rfl (lv_at hl 0 rfl) ?_
  refine W.objInit hx hb hown (hts _ nq_PR_ml) (hts _ nq_oi) (hts _ nq_oc) rfl (by rw [hml]; exact hl.1) rfl nd_PR_1 (Nat.le_of_ble_eq_true rfl) (Nat.le_of_ble_eq_true rfl) ?_
  refine W.eq (g2 := F0 m 4 ls []) rfl ?_
  refine lv_aload_n hx hb nd_PR_4 rfl (lv_at hl 0 rfl) ?_
  refine lv_bipush hx hb nd_PR_5 (v := 24) (by decide) ?_
  refine nw_arr (atype := .int) (ti := 0) (n := 24) (N' := 24) (a0 := (24, .inl (fun _ => 0))) (r := ("SwitchedNets$Proof", T_PR, 5)) hx hb hts hown hin FI_PR (show sn_lk ft_PR 9 = some (3, 0) from rfl) rfl rfl hK hP hD hS hA (fun q => [.ref q, .null, .null, .int 0, .long 0]) (fun _ => rfl) (fun q => [(q, .inl (dA 0, (24, .inl (fun _ => 0))))]) (fun _ => rfl) rfl nq_ai (nw_t0 hK) (fun _ => rfl) (by decide) (by decide) (by decide) (Nat.le_of_ble_eq_true rfl) (Nat.le_of_ble_eq_true rfl) (by decide +kernel) (Nat.le_of_ble_eq_true rfl) nd_PR_7 nd_PR_9 (fun q7 H locs hP hD hS => ?_)
  refine lv_aload_n hx hb nd_PR_12 rfl (lv_at hl 0 rfl) ?_
  refine lv_bipush hx hb nd_PR_13 (v := 25) (by decide) ?_
  refine nw_arr (atype := .long) (ti := 2) (n := 25) (N' := 25) (a0 := (25, .inr (.inl (fun _ => 0)))) (r := ("SwitchedNets$Proof", T_PR, 5)) hx hb hts hown hin FI_PR (show sn_lk ft_PR 15 = some (3, 1) from rfl) rfl rfl hK hP hD hS hA (fun q => [.ref q7, .ref q, .null, .int 0, .long 0]) (fun _ => rfl) (fun q => [(q7, .inl (dA 0, (24, .inl (fun _ => 0)))), (q, .inl (dA 2, (25, .inr (.inl (fun _ => 0)))))]) (fun _ => rfl) rfl nq_al (nw_t2 hK) (fun _ => rfl) (by decide) (by decide) (by decide) (Nat.le_of_ble_eq_true rfl) (Nat.le_of_ble_eq_true rfl) (by decide +kernel) (Nat.le_of_ble_eq_true rfl) nd_PR_15 nd_PR_17 (fun q15 H locs hP hD hS => ?_)
  refine lv_aload_n hx hb nd_PR_20 rfl (lv_at hl 0 rfl) ?_
  refine lv_bipush hx hb nd_PR_21 (v := 24) (by decide) ?_
  refine nw_arr (atype := .int) (ti := 0) (n := 24) (N' := 24) (a0 := (24, .inl (fun _ => 0))) (r := ("SwitchedNets$Proof", T_PR, 5)) hx hb hts hown hin FI_PR (show sn_lk ft_PR 19 = some (3, 2) from rfl) rfl rfl hK hP hD hS hA (fun q => [.ref q7, .ref q15, .ref q, .int 0, .long 0]) (fun _ => rfl) (fun q => [(q7, .inl (dA 0, (24, .inl (fun _ => 0)))), (q15, .inl (dA 2, (25, .inr (.inl (fun _ => 0))))), (q, .inl (dA 0, (24, .inl (fun _ => 0))))]) (fun _ => rfl) rfl nq_ai (nw_t0 hK) (fun _ => rfl) (by decide) (by decide) (by decide) (Nat.le_of_ble_eq_true rfl) (Nat.le_of_ble_eq_true rfl) (by decide +kernel) (Nat.le_of_ble_eq_true rfl) nd_PR_23 nd_PR_25 (fun q23 H locs hP hD hS => ?_)
  refine lv_aload_n hx hb nd_PR_28 rfl (lv_at hl 0 rfl) ?_
  refine lv_iconst hx hb nd_PR_29 (v := 0) (by decide) ?_
  refine nw_put (v := .int (0)) (ty := .int) (r := ("SwitchedNets$Proof", T_PR, 5)) hx hb hts hown hin FI_PR (show sn_lk ft_PR 22 = some (3, 3) from rfl) rfl rfl hK hP hD hS (fs1 := [.ref q7, .ref q15, .ref q23, .int (0), .long 0]) rfl (by decide +kernel) rfl rfl (Nat.le_of_ble_eq_true rfl) nd_PR_30 (fun H locs hP hD hS => ?_)
  refine lv_aload_n hx hb nd_PR_33 rfl (lv_at hl 0 rfl) ?_
  refine lv_lconst hx hb nd_PR_34 (v := 0) rfl ?_
  refine nw_put (v := .long 0) (ty := .long) (r := ("SwitchedNets$Proof", T_PR, 5)) hx hb hts hown hin FI_PR (show sn_lk ft_PR 26 = some (3, 4) from rfl) rfl rfl hK hP hD hS (fs1 := [.ref q7, .ref q15, .ref q23, .int (0), .long 0]) rfl (by decide +kernel) rfl rfl (Nat.le_of_ble_eq_true rfl) nd_PR_35 (fun H locs hP hD hS => ?_)
  have hP9 : va_P D sn_cl (w1_PR dA h0 (fun n => ([q7, q15, q23] : List Nat).getD n 0)) H := hP
  have hD9 : va_D A (w1_PR dA h0 (fun n => ([q7, q15, q23] : List Nat).getD n 0)) := hD
  exact hend H locs 38 _ (by decide +kernel) hP9 hD9 hS
def y_LK_init : MethodName := ⟨"SwitchedNets$Likeness", "<init>", "()V"⟩
theorem nq_LK_mi : Cond.instanceMethod y_LK_init ∈ sn_ws := sn_i1 (List.mem_of_getElem? (i := 210) rfl) rfl
theorem nq_LK_mc : Cond.code y_LK_init prog_3_method_1_code 1 none ∈ sn_ws := sn_i1 (List.mem_of_getElem? (i := 211) rfl) rfl
theorem nq_LK_is : Cond.instantiable "SwitchedNets$Likeness" 4 ∈ sn_ws := sn_i1 (List.mem_of_getElem? (i := 208) rfl) rfl
theorem nq_LK_u : ∀ w ∈ u_ws "SwitchedNets$Likeness" T_LK 4, w ∈ sn_ws := fun w hw => by
  obtain ⟨j, hj, rfl⟩ := List.mem_map.mp hw
  exact la_LK j (List.mem_range.mp hj)
theorem nq_LK_n : y_LK_init.cls ≠ "java/lang/invoke/MethodHandle" ∧ y_LK_init.cls ≠ "java/lang/invoke/VarHandle" ∧ (parseMethodDescriptor y_LK_init.desc).map (fun d => d.parameters.length) = some 0 := ⟨nh_LK.1, nh_LK.2, by decide +kernel⟩
theorem nd_LK_0 : decode prog_3_method_1_code 0 = .ok (.aload_n 0, 1) := by decide +kernel
theorem nd_LK_1 : decode prog_3_method_1_code 1 = .ok (.invokespecial 3, 3) := by decide +kernel
theorem nq_LK_ml : Cond.methodLink "SwitchedNets$Likeness" 3 objectInit ∈ sn_ws := sn_i1 (List.mem_of_getElem? (i := 212) rfl) rfl
theorem nd_LK_4 : decode prog_3_method_1_code 4 = .ok (.aload_n 0, 1) := by decide +kernel
theorem nd_LK_5 : decode prog_3_method_1_code 5 = .ok (.bipush 100, 2) := by decide +kernel
theorem nd_LK_7 : decode prog_3_method_1_code 7 = .ok (.newarray .int, 2) := by decide +kernel
theorem nd_LK_9 : decode prog_3_method_1_code 9 = .ok (.putfield 9, 3) := by decide +kernel
theorem nd_LK_12 : decode prog_3_method_1_code 12 = .ok (.aload_n 0, 1) := by decide +kernel
theorem nd_LK_13 : decode prog_3_method_1_code 13 = .ok (.bipush 60, 2) := by decide +kernel
theorem nd_LK_15 : decode prog_3_method_1_code 15 = .ok (.newarray .int, 2) := by decide +kernel
theorem nd_LK_17 : decode prog_3_method_1_code 17 = .ok (.putfield 15, 3) := by decide +kernel
theorem nd_LK_20 : decode prog_3_method_1_code 20 = .ok (.aload_n 0, 1) := by decide +kernel
theorem nd_LK_21 : decode prog_3_method_1_code 21 = .ok (.bipush 100, 2) := by decide +kernel
theorem nd_LK_23 : decode prog_3_method_1_code 23 = .ok (.newarray .int, 2) := by decide +kernel
theorem nd_LK_25 : decode prog_3_method_1_code 25 = .ok (.putfield 18, 3) := by decide +kernel
theorem nd_LK_28 : decode prog_3_method_1_code 28 = .ok (.aload_n 0, 1) := by decide +kernel
theorem nd_LK_29 : decode prog_3_method_1_code 29 = .ok (.iconst 0, 1) := by decide +kernel
theorem nd_LK_30 : decode prog_3_method_1_code 30 = .ok (.putfield 21, 3) := by decide +kernel
def w0_LK (h : Nat) : va_W := [(h, .inr (1, [.null, .null, .null, .int 0]))]
def w1_LK (dA : Nat → ClassId) (h : Nat) (u : Nat → Nat) : va_W := (h, .inr (1, [.ref (u 0), .ref (u 1), .ref (u 2), .int (0)])) :: (nw_e (u 0) (dA 0) (100, .inl (fun _ => 0)) ++ (nw_e (u 1) (dA 0) (60, .inl (fun _ => 0)) ++ (nw_e (u 2) (dA 0) (100, .inl (fun _ => 0)))))
theorem z0_LK : ∀ j, j < 4 → defaultValue ((parseFieldDescriptor (T_LK j).2.2.1).getD .int) = vp_V [.null, .null, .null, .int 0] j := by decide +kernel
set_option maxHeartbeats 400000 in
set_option maxRecDepth 100000 in
theorem ki_LK : nw_C y_LK_init prog_3_method_1_code 1 3 260 w0_LK w1_LK := by
  refine nw_gen sn_ws (by decide +kernel) rfl ?_
  intro p l e s m args below meth c D dA h0 A ls Qf hx hb hml hts hown hin hP hK hD hmk hA hS hl hend
  have hown : s.vm.findClass "SwitchedNets$Likeness" = some m.cls := hown
  refine lv_aload_n hx hb nd_LK_0 rfl (lv_at hl 0 rfl) ?_
  refine W.objInit hx hb hown (hts _ nq_LK_ml) (hts _ nq_oi) (hts _ nq_oc) rfl (by rw [hml]; exact hl.1) rfl nd_LK_1 (Nat.le_of_ble_eq_true rfl) (Nat.le_of_ble_eq_true rfl) ?_
  refine W.eq (g2 := F0 m 4 ls []) rfl ?_
  refine lv_aload_n hx hb nd_LK_4 rfl (lv_at hl 0 rfl) ?_
  refine lv_bipush hx hb nd_LK_5 (v := 100) (by decide) ?_
  refine nw_arr (atype := .int) (ti := 0) (n := 100) (N' := 100) (a0 := (100, .inl (fun _ => 0))) (r := ("SwitchedNets$Likeness", T_LK, 4)) hx hb hts hown hin FI_LK (show sn_lk ft_LK 9 = some (1, 0) from rfl) rfl rfl hK hP hD hS hA (fun q => [.ref q, .null, .null, .int 0]) (fun _ => rfl) (fun q => [(q, .inl (dA 0, (100, .inl (fun _ => 0))))]) (fun _ => rfl) rfl nq_ai (nw_t0 hK) (fun _ => rfl) (by decide) (by decide) (by decide) (Nat.le_of_ble_eq_true rfl) (Nat.le_of_ble_eq_true rfl) (by decide +kernel) (Nat.le_of_ble_eq_true rfl) nd_LK_7 nd_LK_9 (fun q7 H locs hP hD hS => ?_)
  refine lv_aload_n hx hb nd_LK_12 rfl (lv_at hl 0 rfl) ?_
  refine lv_bipush hx hb nd_LK_13 (v := 60) (by decide) ?_
  refine nw_arr (atype := .int) (ti := 0) (n := 60) (N' := 60) (a0 := (60, .inl (fun _ => 0))) (r := ("SwitchedNets$Likeness", T_LK, 4)) hx hb hts hown hin FI_LK (show sn_lk ft_LK 15 = some (1, 1) from rfl) rfl rfl hK hP hD hS hA (fun q => [.ref q7, .ref q, .null, .int 0]) (fun _ => rfl) (fun q => [(q7, .inl (dA 0, (100, .inl (fun _ => 0)))), (q, .inl (dA 0, (60, .inl (fun _ => 0))))]) (fun _ => rfl) rfl nq_ai (nw_t0 hK) (fun _ => rfl) (by decide) (by decide) (by decide) (Nat.le_of_ble_eq_true rfl) (Nat.le_of_ble_eq_true rfl) (by decide +kernel) (Nat.le_of_ble_eq_true rfl) nd_LK_15 nd_LK_17 (fun q15 H locs hP hD hS => ?_)
  refine lv_aload_n hx hb nd_LK_20 rfl (lv_at hl 0 rfl) ?_
  refine lv_bipush hx hb nd_LK_21 (v := 100) (by decide) ?_
  refine nw_arr (atype := .int) (ti := 0) (n := 100) (N' := 100) (a0 := (100, .inl (fun _ => 0))) (r := ("SwitchedNets$Likeness", T_LK, 4)) hx hb hts hown hin FI_LK (show sn_lk ft_LK 18 = some (1, 2) from rfl) rfl rfl hK hP hD hS hA (fun q => [.ref q7, .ref q15, .ref q, .int 0]) (fun _ => rfl) (fun q => [(q7, .inl (dA 0, (100, .inl (fun _ => 0)))), (q15, .inl (dA 0, (60, .inl (fun _ => 0)))), (q, .inl (dA 0, (100, .inl (fun _ => 0))))]) (fun _ => rfl) rfl nq_ai (nw_t0 hK) (fun _ => rfl) (by decide) (by decide) (by decide) (Nat.le_of_ble_eq_true rfl) (Nat.le_of_ble_eq_true rfl) (by decide +kernel) (Nat.le_of_ble_eq_true rfl) nd_LK_23 nd_LK_25 (fun q23 H locs hP hD hS => ?_)
  refine lv_aload_n hx hb nd_LK_28 rfl (lv_at hl 0 rfl) ?_
  refine lv_iconst hx hb nd_LK_29 (v := 0) (by decide) ?_
  refine nw_put (v := .int (0)) (ty := .int) (r := ("SwitchedNets$Likeness", T_LK, 4)) hx hb hts hown hin FI_LK (show sn_lk ft_LK 21 = some (1, 3) from rfl) rfl rfl hK hP hD hS (fs1 := [.ref q7, .ref q15, .ref q23, .int (0)]) rfl (by decide +kernel) rfl rfl (Nat.le_of_ble_eq_true rfl) nd_LK_30 (fun H locs hP hD hS => ?_)
  have hP9 : va_P D sn_cl (w1_LK dA h0 (fun n => ([q7, q15, q23] : List Nat).getD n 0)) H := hP
  have hD9 : va_D A (w1_LK dA h0 (fun n => ([q7, q15, q23] : List Nat).getD n 0)) := hD
  exact hend H locs 33 _ (by decide +kernel) hP9 hD9 hS
def y_LS_init : MethodName := ⟨"SwitchedNets$LinkingSearch", "<init>", "()V"⟩
theorem nq_LS_mi : Cond.instanceMethod y_LS_init ∈ sn_ws := sn_i1 (List.mem_of_getElem? (i := 229) rfl) rfl
theorem nq_LS_mc : Cond.code y_LS_init prog_4_method_1_code 1 none ∈ sn_ws := sn_i1 (List.mem_of_getElem? (i := 230) rfl) rfl
theorem nq_LS_is : Cond.instantiable "SwitchedNets$LinkingSearch" 13 ∈ sn_ws := sn_i1 (List.mem_of_getElem? (i := 227) rfl) rfl
theorem nq_LS_u : ∀ w ∈ u_ws "SwitchedNets$LinkingSearch" T_LS 13, w ∈ sn_ws := fun w hw => by
  obtain ⟨j, hj, rfl⟩ := List.mem_map.mp hw
  exact la_LS j (List.mem_range.mp hj)
theorem nq_LS_n : y_LS_init.cls ≠ "java/lang/invoke/MethodHandle" ∧ y_LS_init.cls ≠ "java/lang/invoke/VarHandle" ∧ (parseMethodDescriptor y_LS_init.desc).map (fun d => d.parameters.length) = some 0 := ⟨nh_LS.1, nh_LS.2, by decide +kernel⟩
theorem nd_LS_0 : decode prog_4_method_1_code 0 = .ok (.aload_n 0, 1) := by decide +kernel
theorem nd_LS_1 : decode prog_4_method_1_code 1 = .ok (.invokespecial 3, 3) := by decide +kernel
theorem nq_LS_ml : Cond.methodLink "SwitchedNets$LinkingSearch" 3 objectInit ∈ sn_ws := sn_i1 (List.mem_of_getElem? (i := 231) rfl) rfl
theorem nd_LS_4 : decode prog_4_method_1_code 4 = .ok (.aload_n 0, 1) := by decide +kernel
theorem nq_LS_cl9 : Cond.classLink "SwitchedNets$LinkingSearch" 9 "SwitchedNets$Structure" ∈ sn_ws := sn_i1 (List.mem_of_getElem? (i := 232) rfl) rfl
theorem nq_LS_il11 : ("SwitchedNets$LinkingSearch", 11, y_ST_init) ∈ nw_ns := by decide +kernel
theorem nd_LS_5 : decode prog_4_method_1_code 5 = .ok (.new 9, 3) := by decide +kernel
theorem nd_LS_8 : decode prog_4_method_1_code 8 = .ok (.dup, 1) := by decide +kernel
theorem nd_LS_9 : decode prog_4_method_1_code 9 = .ok (.invokespecial 11, 3) := by decide +kernel
theorem nd_LS_12 : decode prog_4_method_1_code 12 = .ok (.putfield 12, 3) := by decide +kernel
theorem nd_LS_15 : decode prog_4_method_1_code 15 = .ok (.aload_n 0, 1) := by decide +kernel
theorem nq_LS_cl18 : Cond.classLink "SwitchedNets$LinkingSearch" 18 "SwitchedNets$Switchings" ∈ sn_ws := sn_i1 (List.mem_of_getElem? (i := 234) rfl) rfl
theorem nq_LS_il20 : ("SwitchedNets$LinkingSearch", 20, y_SW_init) ∈ nw_ns := by decide +kernel
theorem nd_LS_16 : decode prog_4_method_1_code 16 = .ok (.new 18, 3) := by decide +kernel
theorem nd_LS_19 : decode prog_4_method_1_code 19 = .ok (.dup, 1) := by decide +kernel
theorem nd_LS_20 : decode prog_4_method_1_code 20 = .ok (.invokespecial 20, 3) := by decide +kernel
theorem nd_LS_23 : decode prog_4_method_1_code 23 = .ok (.putfield 21, 3) := by decide +kernel
theorem nd_LS_26 : decode prog_4_method_1_code 26 = .ok (.aload_n 0, 1) := by decide +kernel
theorem nd_LS_27 : decode prog_4_method_1_code 27 = .ok (.bipush 16, 2) := by decide +kernel
theorem nd_LS_29 : decode prog_4_method_1_code 29 = .ok (.newarray .int, 2) := by decide +kernel
theorem nd_LS_31 : decode prog_4_method_1_code 31 = .ok (.putfield 25, 3) := by decide +kernel
theorem nd_LS_34 : decode prog_4_method_1_code 34 = .ok (.aload_n 0, 1) := by decide +kernel
theorem nd_LS_35 : decode prog_4_method_1_code 35 = .ok (.bipush 8, 2) := by decide +kernel
theorem nd_LS_37 : decode prog_4_method_1_code 37 = .ok (.newarray .int, 2) := by decide +kernel
theorem nd_LS_39 : decode prog_4_method_1_code 39 = .ok (.putfield 29, 3) := by decide +kernel
theorem nd_LS_42 : decode prog_4_method_1_code 42 = .ok (.aload_n 0, 1) := by decide +kernel
theorem nd_LS_43 : decode prog_4_method_1_code 43 = .ok (.bipush 8, 2) := by decide +kernel
theorem nd_LS_45 : decode prog_4_method_1_code 45 = .ok (.newarray .int, 2) := by decide +kernel
theorem nd_LS_47 : decode prog_4_method_1_code 47 = .ok (.putfield 32, 3) := by decide +kernel
theorem nd_LS_50 : decode prog_4_method_1_code 50 = .ok (.aload_n 0, 1) := by decide +kernel
theorem nd_LS_51 : decode prog_4_method_1_code 51 = .ok (.bipush 8, 2) := by decide +kernel
theorem nd_LS_53 : decode prog_4_method_1_code 53 = .ok (.newarray .int, 2) := by decide +kernel
theorem nd_LS_55 : decode prog_4_method_1_code 55 = .ok (.putfield 35, 3) := by decide +kernel
theorem nd_LS_58 : decode prog_4_method_1_code 58 = .ok (.aload_n 0, 1) := by decide +kernel
theorem nd_LS_59 : decode prog_4_method_1_code 59 = .ok (.bipush 8, 2) := by decide +kernel
theorem nd_LS_61 : decode prog_4_method_1_code 61 = .ok (.newarray .int, 2) := by decide +kernel
theorem nd_LS_63 : decode prog_4_method_1_code 63 = .ok (.putfield 38, 3) := by decide +kernel
theorem nd_LS_66 : decode prog_4_method_1_code 66 = .ok (.aload_n 0, 1) := by decide +kernel
theorem nd_LS_67 : decode prog_4_method_1_code 67 = .ok (.sipush 192, 3) := by decide +kernel
theorem nd_LS_70 : decode prog_4_method_1_code 70 = .ok (.newarray .int, 2) := by decide +kernel
theorem nd_LS_72 : decode prog_4_method_1_code 72 = .ok (.putfield 41, 3) := by decide +kernel
theorem nd_LS_75 : decode prog_4_method_1_code 75 = .ok (.aload_n 0, 1) := by decide +kernel
theorem nd_LS_76 : decode prog_4_method_1_code 76 = .ok (.iconst (-1), 1) := by decide +kernel
theorem nd_LS_77 : decode prog_4_method_1_code 77 = .ok (.putfield 44, 3) := by decide +kernel
theorem nd_LS_80 : decode prog_4_method_1_code 80 = .ok (.aload_n 0, 1) := by decide +kernel
theorem nd_LS_81 : decode prog_4_method_1_code 81 = .ok (.iconst 0, 1) := by decide +kernel
theorem nd_LS_82 : decode prog_4_method_1_code 82 = .ok (.putfield 48, 3) := by decide +kernel
theorem nd_LS_85 : decode prog_4_method_1_code 85 = .ok (.aload_n 0, 1) := by decide +kernel
theorem nd_LS_86 : decode prog_4_method_1_code 86 = .ok (.iconst 0, 1) := by decide +kernel
theorem nd_LS_87 : decode prog_4_method_1_code 87 = .ok (.putfield 51, 3) := by decide +kernel
theorem nd_LS_90 : decode prog_4_method_1_code 90 = .ok (.aload_n 0, 1) := by decide +kernel
theorem nd_LS_91 : decode prog_4_method_1_code 91 = .ok (.iconst 0, 1) := by decide +kernel
theorem nd_LS_92 : decode prog_4_method_1_code 92 = .ok (.putfield 54, 3) := by decide +kernel
theorem nd_LS_95 : decode prog_4_method_1_code 95 = .ok (.aload_n 0, 1) := by decide +kernel
theorem nd_LS_96 : decode prog_4_method_1_code 96 = .ok (.iconst 0, 1) := by decide +kernel
theorem nd_LS_97 : decode prog_4_method_1_code 97 = .ok (.putfield 57, 3) := by decide +kernel
def w0_LS (h : Nat) : va_W := [(h, .inr (2, [.null, .null, .null, .null, .null, .null, .null, .null, .int 0, .int 0, .int 0, .int 0, .int 0]))]
def w1_LS (dA : Nat → ClassId) (h : Nat) (u : Nat → Nat) : va_W := (h, .inr (2, [.ref (u 0), .ref (u 10), .ref (u 15), .ref (u 16), .ref (u 17), .ref (u 18), .ref (u 19), .ref (u 20), .int (-1), .int (0), .int (0), .int (0), .int (0)])) :: (w1_ST dA (u 0) (fun j => u (1 + j)) ++ (w1_SW dA (u 10) (fun j => u (11 + j)) ++ (nw_e (u 15) (dA 0) (16, .inl (fun _ => 0)) ++ (nw_e (u 16) (dA 0) (8, .inl (fun _ => 0)) ++ (nw_e (u 17) (dA 0) (8, .inl (fun _ => 0)) ++ (nw_e (u 18) (dA 0) (8, .inl (fun _ => 0)) ++ (nw_e (u 19) (dA 0) (8, .inl (fun _ => 0)) ++ (nw_e (u 20) (dA 0) (192, .inl (fun _ => 0))))))))))
theorem z0_LS : ∀ j, j < 13 → defaultValue ((parseFieldDescriptor (T_LS j).2.2.1).getD .int) = vp_V [.null, .null, .null, .null, .null, .null, .null, .null, .int 0, .int 0, .int 0, .int 0, .int 0] j := by decide +kernel
set_option maxHeartbeats 400000 in
set_option maxRecDepth 100000 in
theorem ki_LS : nw_C y_LS_init prog_4_method_1_code 2 30 1575 w0_LS w1_LS := by
  refine nw_gen sn_ws (by decide +kernel) rfl ?_
  intro p l e s m args below meth c D dA h0 A ls Qf hx hb hml hts hown hin hP hK hD hmk hA hS hl hend
  have hown : s.vm.findClass "SwitchedNets$LinkingSearch" = some m.cls := hown
  refine lv_aload_n hx hb nd_LS_0 rfl (lv_at hl 0 rfl) ?_
  refine W.objInit hx hb hown (hts _ nq_LS_ml) (hts _ nq_oi) (hts _ nq_oc) rfl (by rw [hml]; exact hl.1) rfl nd_LS_1 (Nat.le_of_ble_eq_true rfl) (Nat.le_of_ble_eq_true rfl) ?_
  refine W.eq (g2 := F0 m 4 ls []) rfl ?_
  refine lv_aload_n hx hb nd_LS_4 rfl (lv_at hl 0 rfl) ?_
  refine nw_sub (r := ("SwitchedNets$LinkingSearch", T_LS, 13)) hx hb (hml.trans hl.1.symm) hts hown hin FI_LS (show sn_lk ft_LS 12 = some (2, 0) from rfl) rfl rfl hK hP hD hS hA (fun q => [.ref q, .null, .null, .null, .null, .null, .null, .null, .int 0, .int 0, .int 0, .int 0, .int 0]) (fun _ => rfl) hmk ki_ST (fs0 := [.null, .null, .null, .null, .null, .null, .null, .null, .null, .int 0, .int 0, .int 0, .int 0, .int 0, .int 0]) rfl rfl rfl (fun _ => rfl) nq_ST_u z0_ST nq_LS_cl9 nq_ST_is mz_ST nq_LS_il11 nq_ST_mi nq_ST_mc nq_ST_n (Nat.le_of_ble_eq_true rfl) (Nat.le_of_ble_eq_true rfl) (Nat.le_of_ble_eq_true rfl) (Nat.le_of_ble_eq_true rfl) (by decide +kernel) (Nat.le_of_ble_eq_true rfl) nd_LS_5 nd_LS_8 nd_LS_9 nd_LS_12 (fun q5 u5 H locs hP hD hS => ?_)
  refine lv_aload_n hx hb nd_LS_15 rfl (lv_at hl 0 rfl) ?_
  refine nw_sub (r := ("SwitchedNets$LinkingSearch", T_LS, 13)) hx hb (hml.trans hl.1.symm) hts hown hin FI_LS (show sn_lk ft_LS 21 = some (2, 1) from rfl) rfl rfl hK hP hD hS hA (fun q => [.ref q5, .ref q, .null, .null, .null, .null, .null, .null, .int 0, .int 0, .int 0, .int 0, .int 0]) (fun _ => rfl) hmk ki_SW (fs0 := [.null, .null, .null, .null, .int 0]) rfl rfl rfl (fun _ => rfl) nq_SW_u z0_SW nq_LS_cl18 nq_SW_is mz_SW nq_LS_il20 nq_SW_mi nq_SW_mc nq_SW_n (Nat.le_of_ble_eq_true rfl) (Nat.le_of_ble_eq_true rfl) (Nat.le_of_ble_eq_true rfl) (Nat.le_of_ble_eq_true rfl) (by decide +kernel) (Nat.le_of_ble_eq_true rfl) nd_LS_16 nd_LS_19 nd_LS_20 nd_LS_23 (fun q16 u16 H locs hP hD hS => ?_)
  refine lv_aload_n hx hb nd_LS_26 rfl (lv_at hl 0 rfl) ?_
  refine lv_bipush hx hb nd_LS_27 (v := 16) (by decide) ?_
  refine nw_arr (atype := .int) (ti := 0) (n := 16) (N' := 16) (a0 := (16, .inl (fun _ => 0))) (r := ("SwitchedNets$LinkingSearch", T_LS, 13)) hx hb hts hown hin FI_LS (show sn_lk ft_LS 25 = some (2, 2) from rfl) rfl rfl hK hP hD hS hA (fun q => [.ref q5, .ref q16, .ref q, .null, .null, .null, .null, .null, .int 0, .int 0, .int 0, .int 0, .int 0]) (fun _ => rfl) (fun q => ((([]) ++ w1_ST dA q5 u5) ++ w1_SW dA q16 u16) ++ nw_e q (dA 0) (16, .inl (fun _ => 0))) (fun _ => rfl) rfl nq_ai (nw_t0 hK) (fun _ => rfl) (by decide) (by decide) (by decide) (Nat.le_of_ble_eq_true rfl) (Nat.le_of_ble_eq_true rfl) (by decide +kernel) (Nat.le_of_ble_eq_true rfl) nd_LS_29 nd_LS_31 (fun q29 H locs hP hD hS => ?_)
  refine lv_aload_n hx hb nd_LS_34 rfl (lv_at hl 0 rfl) ?_
  refine lv_bipush hx hb nd_LS_35 (v := 8) (by decide) ?_
  refine nw_arr (atype := .int) (ti := 0) (n := 8) (N' := 8) (a0 := (8, .inl (fun _ => 0))) (r := ("SwitchedNets$LinkingSearch", T_LS, 13)) hx hb hts hown hin FI_LS (show sn_lk ft_LS 29 = some (2, 3) from rfl) rfl rfl hK hP hD hS hA (fun q => [.ref q5, .ref q16, .ref q29, .ref q, .null, .null, .null, .null, .int 0, .int 0, .int 0, .int 0, .int 0]) (fun _ => rfl) (fun q => (((([]) ++ w1_ST dA q5 u5) ++ w1_SW dA q16 u16) ++ nw_e q29 (dA 0) (16, .inl (fun _ => 0))) ++ nw_e q (dA 0) (8, .inl (fun _ => 0))) (fun _ => rfl) rfl nq_ai (nw_t0 hK) (fun _ => rfl) (by decide) (by decide) (by decide) (Nat.le_of_ble_eq_true rfl) (Nat.le_of_ble_eq_true rfl) (by decide +kernel) (Nat.le_of_ble_eq_true rfl) nd_LS_37 nd_LS_39 (fun q37 H locs hP hD hS => ?_)
  refine lv_aload_n hx hb nd_LS_42 rfl (lv_at hl 0 rfl) ?_
  refine lv_bipush hx hb nd_LS_43 (v := 8) (by decide) ?_
  refine nw_arr (atype := .int) (ti := 0) (n := 8) (N' := 8) (a0 := (8, .inl (fun _ => 0))) (r := ("SwitchedNets$LinkingSearch", T_LS, 13)) hx hb hts hown hin FI_LS (show sn_lk ft_LS 32 = some (2, 4) from rfl) rfl rfl hK hP hD hS hA (fun q => [.ref q5, .ref q16, .ref q29, .ref q37, .ref q, .null, .null, .null, .int 0, .int 0, .int 0, .int 0, .int 0]) (fun _ => rfl) (fun q => ((((([]) ++ w1_ST dA q5 u5) ++ w1_SW dA q16 u16) ++ nw_e q29 (dA 0) (16, .inl (fun _ => 0))) ++ nw_e q37 (dA 0) (8, .inl (fun _ => 0))) ++ nw_e q (dA 0) (8, .inl (fun _ => 0))) (fun _ => rfl) rfl nq_ai (nw_t0 hK) (fun _ => rfl) (by decide) (by decide) (by decide) (Nat.le_of_ble_eq_true rfl) (Nat.le_of_ble_eq_true rfl) (by decide +kernel) (Nat.le_of_ble_eq_true rfl) nd_LS_45 nd_LS_47 (fun q45 H locs hP hD hS => ?_)
  refine lv_aload_n hx hb nd_LS_50 rfl (lv_at hl 0 rfl) ?_
  refine lv_bipush hx hb nd_LS_51 (v := 8) (by decide) ?_
  refine nw_arr (atype := .int) (ti := 0) (n := 8) (N' := 8) (a0 := (8, .inl (fun _ => 0))) (r := ("SwitchedNets$LinkingSearch", T_LS, 13)) hx hb hts hown hin FI_LS (show sn_lk ft_LS 35 = some (2, 5) from rfl) rfl rfl hK hP hD hS hA (fun q => [.ref q5, .ref q16, .ref q29, .ref q37, .ref q45, .ref q, .null, .null, .int 0, .int 0, .int 0, .int 0, .int 0]) (fun _ => rfl) (fun q => (((((([]) ++ w1_ST dA q5 u5) ++ w1_SW dA q16 u16) ++ nw_e q29 (dA 0) (16, .inl (fun _ => 0))) ++ nw_e q37 (dA 0) (8, .inl (fun _ => 0))) ++ nw_e q45 (dA 0) (8, .inl (fun _ => 0))) ++ nw_e q (dA 0) (8, .inl (fun _ => 0))) (fun _ => rfl) rfl nq_ai (nw_t0 hK) (fun _ => rfl) (by decide) (by decide) (by decide) (Nat.le_of_ble_eq_true rfl) (Nat.le_of_ble_eq_true rfl) (by decide +kernel) (Nat.le_of_ble_eq_true rfl) nd_LS_53 nd_LS_55 (fun q53 H locs hP hD hS => ?_)
  refine lv_aload_n hx hb nd_LS_58 rfl (lv_at hl 0 rfl) ?_
  refine lv_bipush hx hb nd_LS_59 (v := 8) (by decide) ?_
  refine nw_arr (atype := .int) (ti := 0) (n := 8) (N' := 8) (a0 := (8, .inl (fun _ => 0))) (r := ("SwitchedNets$LinkingSearch", T_LS, 13)) hx hb hts hown hin FI_LS (show sn_lk ft_LS 38 = some (2, 6) from rfl) rfl rfl hK hP hD hS hA (fun q => [.ref q5, .ref q16, .ref q29, .ref q37, .ref q45, .ref q53, .ref q, .null, .int 0, .int 0, .int 0, .int 0, .int 0]) (fun _ => rfl) (fun q => ((((((([]) ++ w1_ST dA q5 u5) ++ w1_SW dA q16 u16) ++ nw_e q29 (dA 0) (16, .inl (fun _ => 0))) ++ nw_e q37 (dA 0) (8, .inl (fun _ => 0))) ++ nw_e q45 (dA 0) (8, .inl (fun _ => 0))) ++ nw_e q53 (dA 0) (8, .inl (fun _ => 0))) ++ nw_e q (dA 0) (8, .inl (fun _ => 0))) (fun _ => rfl) rfl nq_ai (nw_t0 hK) (fun _ => rfl) (by decide) (by decide) (by decide) (Nat.le_of_ble_eq_true rfl) (Nat.le_of_ble_eq_true rfl) (by decide +kernel) (Nat.le_of_ble_eq_true rfl) nd_LS_61 nd_LS_63 (fun q61 H locs hP hD hS => ?_)
  refine lv_aload_n hx hb nd_LS_66 rfl (lv_at hl 0 rfl) ?_
  refine lv_sipush hx hb nd_LS_67 (v := 192) (by decide) ?_
  refine nw_arr (atype := .int) (ti := 0) (n := 192) (N' := 192) (a0 := (192, .inl (fun _ => 0))) (r := ("SwitchedNets$LinkingSearch", T_LS, 13)) hx hb hts hown hin FI_LS (show sn_lk ft_LS 41 = some (2, 7) from rfl) rfl rfl hK hP hD hS hA (fun q => [.ref q5, .ref q16, .ref q29, .ref q37, .ref q45, .ref q53, .ref q61, .ref q, .int 0, .int 0, .int 0, .int 0, .int 0]) (fun _ => rfl) (fun q => (((((((([]) ++ w1_ST dA q5 u5) ++ w1_SW dA q16 u16) ++ nw_e q29 (dA 0) (16, .inl (fun _ => 0))) ++ nw_e q37 (dA 0) (8, .inl (fun _ => 0))) ++ nw_e q45 (dA 0) (8, .inl (fun _ => 0))) ++ nw_e q53 (dA 0) (8, .inl (fun _ => 0))) ++ nw_e q61 (dA 0) (8, .inl (fun _ => 0))) ++ nw_e q (dA 0) (192, .inl (fun _ => 0))) (fun _ => rfl) rfl nq_ai (nw_t0 hK) (fun _ => rfl) (by decide) (by decide) (by decide) (Nat.le_of_ble_eq_true rfl) (Nat.le_of_ble_eq_true rfl) (by decide +kernel) (Nat.le_of_ble_eq_true rfl) nd_LS_70 nd_LS_72 (fun q70 H locs hP hD hS => ?_)
  refine lv_aload_n hx hb nd_LS_75 rfl (lv_at hl 0 rfl) ?_
  refine lv_iconst hx hb nd_LS_76 (v := -1) (by decide) ?_
  refine nw_put (v := .int (-1)) (ty := .int) (r := ("SwitchedNets$LinkingSearch", T_LS, 13)) hx hb hts hown hin FI_LS (show sn_lk ft_LS 44 = some (2, 8) from rfl) rfl rfl hK hP hD hS (fs1 := [.ref q5, .ref q16, .ref q29, .ref q37, .ref q45, .ref q53, .ref q61, .ref q70, .int (-1), .int 0, .int 0, .int 0, .int 0]) rfl (by decide +kernel) rfl rfl (Nat.le_of_ble_eq_true rfl) nd_LS_77 (fun H locs hP hD hS => ?_)
  refine lv_aload_n hx hb nd_LS_80 rfl (lv_at hl 0 rfl) ?_
  refine lv_iconst hx hb nd_LS_81 (v := 0) (by decide) ?_
  refine nw_put (v := .int (0)) (ty := .int) (r := ("SwitchedNets$LinkingSearch", T_LS, 13)) hx hb hts hown hin FI_LS (show sn_lk ft_LS 48 = some (2, 9) from rfl) rfl rfl hK hP hD hS (fs1 := [.ref q5, .ref q16, .ref q29, .ref q37, .ref q45, .ref q53, .ref q61, .ref q70, .int (-1), .int (0), .int 0, .int 0, .int 0]) rfl (by decide +kernel) rfl rfl (Nat.le_of_ble_eq_true rfl) nd_LS_82 (fun H locs hP hD hS => ?_)
  refine lv_aload_n hx hb nd_LS_85 rfl (lv_at hl 0 rfl) ?_
  refine lv_iconst hx hb nd_LS_86 (v := 0) (by decide) ?_
  refine nw_put (v := .int (0)) (ty := .int) (r := ("SwitchedNets$LinkingSearch", T_LS, 13)) hx hb hts hown hin FI_LS (show sn_lk ft_LS 51 = some (2, 10) from rfl) rfl rfl hK hP hD hS (fs1 := [.ref q5, .ref q16, .ref q29, .ref q37, .ref q45, .ref q53, .ref q61, .ref q70, .int (-1), .int (0), .int (0), .int 0, .int 0]) rfl (by decide +kernel) rfl rfl (Nat.le_of_ble_eq_true rfl) nd_LS_87 (fun H locs hP hD hS => ?_)
  refine lv_aload_n hx hb nd_LS_90 rfl (lv_at hl 0 rfl) ?_
  refine lv_iconst hx hb nd_LS_91 (v := 0) (by decide) ?_
  refine nw_put (v := .int (0)) (ty := .int) (r := ("SwitchedNets$LinkingSearch", T_LS, 13)) hx hb hts hown hin FI_LS (show sn_lk ft_LS 54 = some (2, 11) from rfl) rfl rfl hK hP hD hS (fs1 := [.ref q5, .ref q16, .ref q29, .ref q37, .ref q45, .ref q53, .ref q61, .ref q70, .int (-1), .int (0), .int (0), .int (0), .int 0]) rfl (by decide +kernel) rfl rfl (Nat.le_of_ble_eq_true rfl) nd_LS_92 (fun H locs hP hD hS => ?_)
  refine lv_aload_n hx hb nd_LS_95 rfl (lv_at hl 0 rfl) ?_
  refine lv_iconst hx hb nd_LS_96 (v := 0) (by decide) ?_
  refine nw_put (v := .int (0)) (ty := .int) (r := ("SwitchedNets$LinkingSearch", T_LS, 13)) hx hb hts hown hin FI_LS (show sn_lk ft_LS 57 = some (2, 12) from rfl) rfl rfl hK hP hD hS (fs1 := [.ref q5, .ref q16, .ref q29, .ref q37, .ref q45, .ref q53, .ref q61, .ref q70, .int (-1), .int (0), .int (0), .int (0), .int (0)]) rfl (by decide +kernel) rfl rfl (Nat.le_of_ble_eq_true rfl) nd_LS_97 (fun H locs hP hD hS => ?_)
  have hP9 : va_P D sn_cl (w1_LS dA h0 (fun n => ([q5, u5 0, u5 1, u5 2, u5 3, u5 4, u5 5, u5 6, u5 7, u5 8, q16, u16 0, u16 1, u16 2, u16 3, q29, q37, q45, q53, q61, q70] : List Nat).getD n 0)) H := hP
  have hD9 : va_D A (w1_LS dA h0 (fun n => ([q5, u5 0, u5 1, u5 2, u5 3, u5 4, u5 5, u5 6, u5 7, u5 8, q16, u16 0, u16 1, u16 2, u16 3, q29, q37, q45, q53, q61, q70] : List Nat).getD n 0)) := hD
  exact hend H locs 100 _ (by decide +kernel) hP9 hD9 hS
def y_SN_init : MethodName := ⟨"SwitchedNets", "<init>", "()V"⟩
theorem nq_SN_mi : Cond.instanceMethod y_SN_init ∈ sn_ws := sn_i1 (List.mem_of_getElem? (i := 20) rfl) rfl
theorem nq_SN_mc : Cond.code y_SN_init prog_1_method_1_code 1 none ∈ sn_ws := sn_i1 (List.mem_of_getElem? (i := 21) rfl) rfl
theorem nq_SN_is : Cond.instantiable "SwitchedNets" 8 ∈ sn_ws := sn_i1 (List.mem_of_getElem? (i := 18) rfl) rfl
theorem nq_SN_u : ∀ w ∈ u_ws "SwitchedNets" T_SN 8, w ∈ sn_ws := fun w hw => by
  obtain ⟨j, hj, rfl⟩ := List.mem_map.mp hw
  exact la_SN j (List.mem_range.mp hj)
theorem nq_SN_n : y_SN_init.cls ≠ "java/lang/invoke/MethodHandle" ∧ y_SN_init.cls ≠ "java/lang/invoke/VarHandle" ∧ (parseMethodDescriptor y_SN_init.desc).map (fun d => d.parameters.length) = some 0 := ⟨nh_SN.1, nh_SN.2, by decide +kernel⟩
theorem nd_SN_0 : decode prog_1_method_1_code 0 = .ok (.aload_n 0, 1) := by decide +kernel
theorem nd_SN_1 : decode prog_1_method_1_code 1 = .ok (.invokespecial 1, 3) := by decide +kernel
theorem nq_SN_ml : Cond.methodLink "SwitchedNets" 1 objectInit ∈ sn_ws := sn_i1 (List.mem_of_getElem? (i := 22) rfl) rfl
theorem nd_SN_4 : decode prog_1_method_1_code 4 = .ok (.aload_n 0, 1) := by decide +kernel
theorem nq_SN_cl7 : Cond.classLink "SwitchedNets" 7 "SwitchedNets$Formulas" ∈ sn_ws := sn_i1 (List.mem_of_getElem? (i := 25) rfl) rfl
theorem nq_SN_il9 : ("SwitchedNets", 9, y_FO_init) ∈ nw_ns := by decide +kernel
theorem nd_SN_5 : decode prog_1_method_1_code 5 = .ok (.new 7, 3) := by decide +kernel
theorem nd_SN_8 : decode prog_1_method_1_code 8 = .ok (.dup, 1) := by decide +kernel
theorem nd_SN_9 : decode prog_1_method_1_code 9 = .ok (.invokespecial 9, 3) := by decide +kernel
theorem nd_SN_12 : decode prog_1_method_1_code 12 = .ok (.putfield 10, 3) := by decide +kernel
theorem nd_SN_15 : decode prog_1_method_1_code 15 = .ok (.aload_n 0, 1) := by decide +kernel
theorem nq_SN_cl16 : Cond.classLink "SwitchedNets" 16 "SwitchedNets$Structure" ∈ sn_ws := sn_i1 (List.mem_of_getElem? (i := 68) rfl) rfl
theorem nq_SN_il18 : ("SwitchedNets", 18, y_ST_init) ∈ nw_ns := by decide +kernel
theorem nd_SN_16 : decode prog_1_method_1_code 16 = .ok (.new 16, 3) := by decide +kernel
theorem nd_SN_19 : decode prog_1_method_1_code 19 = .ok (.dup, 1) := by decide +kernel
theorem nd_SN_20 : decode prog_1_method_1_code 20 = .ok (.invokespecial 18, 3) := by decide +kernel
theorem nd_SN_23 : decode prog_1_method_1_code 23 = .ok (.putfield 19, 3) := by decide +kernel
theorem nd_SN_26 : decode prog_1_method_1_code 26 = .ok (.aload_n 0, 1) := by decide +kernel
theorem nd_SN_27 : decode prog_1_method_1_code 27 = .ok (.new 16, 3) := by decide +kernel
theorem nd_SN_30 : decode prog_1_method_1_code 30 = .ok (.dup, 1) := by decide +kernel
theorem nd_SN_31 : decode prog_1_method_1_code 31 = .ok (.invokespecial 18, 3) := by decide +kernel
theorem nd_SN_34 : decode prog_1_method_1_code 34 = .ok (.putfield 23, 3) := by decide +kernel
theorem nd_SN_37 : decode prog_1_method_1_code 37 = .ok (.aload_n 0, 1) := by decide +kernel
theorem nd_SN_38 : decode prog_1_method_1_code 38 = .ok (.new 16, 3) := by decide +kernel
theorem nd_SN_41 : decode prog_1_method_1_code 41 = .ok (.dup, 1) := by decide +kernel
theorem nd_SN_42 : decode prog_1_method_1_code 42 = .ok (.invokespecial 18, 3) := by decide +kernel
theorem nd_SN_45 : decode prog_1_method_1_code 45 = .ok (.putfield 26, 3) := by decide +kernel
theorem nd_SN_48 : decode prog_1_method_1_code 48 = .ok (.aload_n 0, 1) := by decide +kernel
theorem nq_SN_cl29 : Cond.classLink "SwitchedNets" 29 "SwitchedNets$Switchings" ∈ sn_ws := sn_i1 (List.mem_of_getElem? (i := 158) rfl) rfl
theorem nq_SN_il31 : ("SwitchedNets", 31, y_SW_init) ∈ nw_ns := by decide +kernel
theorem nd_SN_49 : decode prog_1_method_1_code 49 = .ok (.new 29, 3) := by decide +kernel
theorem nd_SN_52 : decode prog_1_method_1_code 52 = .ok (.dup, 1) := by decide +kernel
theorem nd_SN_53 : decode prog_1_method_1_code 53 = .ok (.invokespecial 31, 3) := by decide +kernel
theorem nd_SN_56 : decode prog_1_method_1_code 56 = .ok (.putfield 32, 3) := by decide +kernel
theorem nd_SN_59 : decode prog_1_method_1_code 59 = .ok (.aload_n 0, 1) := by decide +kernel
theorem nq_SN_cl36 : Cond.classLink "SwitchedNets" 36 "SwitchedNets$Proof" ∈ sn_ws := sn_i1 (List.mem_of_getElem? (i := 183) rfl) rfl
theorem nq_SN_il38 : ("SwitchedNets", 38, y_PR_init) ∈ nw_ns := by decide +kernel
theorem nd_SN_60 : decode prog_1_method_1_code 60 = .ok (.new 36, 3) := by decide +kernel
theorem nd_SN_63 : decode prog_1_method_1_code 63 = .ok (.dup, 1) := by decide +kernel
theorem nd_SN_64 : decode prog_1_method_1_code 64 = .ok (.invokespecial 38, 3) := by decide +kernel
theorem nd_SN_67 : decode prog_1_method_1_code 67 = .ok (.putfield 39, 3) := by decide +kernel
theorem nd_SN_70 : decode prog_1_method_1_code 70 = .ok (.aload_n 0, 1) := by decide +kernel
theorem nq_SN_cl43 : Cond.classLink "SwitchedNets" 43 "SwitchedNets$Likeness" ∈ sn_ws := sn_i1 (List.mem_of_getElem? (i := 207) rfl) rfl
theorem nq_SN_il45 : ("SwitchedNets", 45, y_LK_init) ∈ nw_ns := by decide +kernel
theorem nd_SN_71 : decode prog_1_method_1_code 71 = .ok (.new 43, 3) := by decide +kernel
theorem nd_SN_74 : decode prog_1_method_1_code 74 = .ok (.dup, 1) := by decide +kernel
theorem nd_SN_75 : decode prog_1_method_1_code 75 = .ok (.invokespecial 45, 3) := by decide +kernel
theorem nd_SN_78 : decode prog_1_method_1_code 78 = .ok (.putfield 46, 3) := by decide +kernel
theorem nd_SN_81 : decode prog_1_method_1_code 81 = .ok (.aload_n 0, 1) := by decide +kernel
theorem nq_SN_cl50 : Cond.classLink "SwitchedNets" 50 "SwitchedNets$LinkingSearch" ∈ sn_ws := sn_i1 (List.mem_of_getElem? (i := 226) rfl) rfl
theorem nq_SN_il52 : ("SwitchedNets", 52, y_LS_init) ∈ nw_ns := by decide +kernel
theorem nd_SN_82 : decode prog_1_method_1_code 82 = .ok (.new 50, 3) := by decide +kernel
theorem nd_SN_85 : decode prog_1_method_1_code 85 = .ok (.dup, 1) := by decide +kernel
theorem nd_SN_86 : decode prog_1_method_1_code 86 = .ok (.invokespecial 52, 3) := by decide +kernel
theorem nd_SN_89 : decode prog_1_method_1_code 89 = .ok (.putfield 53, 3) := by decide +kernel
def w0_SN (h : Nat) : va_W := [(h, .inr (6, [.null, .null, .null, .null, .null, .null, .null, .null]))]
def w1_SN (dA : Nat → ClassId) (h : Nat) (u : Nat → Nat) : va_W := (h, .inr (6, [.ref (u 0), .ref (u 8), .ref (u 18), .ref (u 28), .ref (u 38), .ref (u 43), .ref (u 47), .ref (u 51)])) :: (w1_FO dA (u 0) (fun j => u (1 + j)) ++ (w1_ST dA (u 8) (fun j => u (9 + j)) ++ (w1_ST dA (u 18) (fun j => u (19 + j)) ++ (w1_ST dA (u 28) (fun j => u (29 + j)) ++ (w1_SW dA (u 38) (fun j => u (39 + j)) ++ (w1_PR dA (u 43) (fun j => u (44 + j)) ++ (w1_LK dA (u 47) (fun j => u (48 + j)) ++ (w1_LS dA (u 51) (fun j => u (52 + j))))))))))
theorem z0_SN : ∀ j, j < 8 → defaultValue ((parseFieldDescriptor (T_SN j).2.2.1).getD .int) = vp_V [.null, .null, .null, .null, .null, .null, .null, .null] j := by decide +kernel
set_option maxHeartbeats 400000 in
set_option maxRecDepth 100000 in
theorem ki_SN : nw_C y_SN_init prog_1_method_1_code 3 91 5343 w0_SN w1_SN := by
  refine nw_gen sn_ws (by decide +kernel) rfl ?_
  intro p l e s m args below meth c D dA h0 A ls Qf hx hb hml hts hown hin hP hK hD hmk hA hS hl hend
  have hown : s.vm.findClass "SwitchedNets" = some m.cls := hown
  refine lv_aload_n hx hb nd_SN_0 rfl (lv_at hl 0 rfl) ?_
  refine W.objInit hx hb hown (hts _ nq_SN_ml) (hts _ nq_oi) (hts _ nq_oc) rfl (by rw [hml]; exact hl.1) rfl nd_SN_1 (Nat.le_of_ble_eq_true rfl) (Nat.le_of_ble_eq_true rfl) ?_
  refine W.eq (g2 := F0 m 4 ls []) rfl ?_
  refine lv_aload_n hx hb nd_SN_4 rfl (lv_at hl 0 rfl) ?_
  refine nw_sub (r := ("SwitchedNets", T_SN, 8)) hx hb (hml.trans hl.1.symm) hts hown hin FI_SN (show sn_lk ft_SN 10 = some (6, 0) from rfl) rfl rfl hK hP hD hS hA (fun q => [.ref q, .null, .null, .null, .null, .null, .null, .null]) (fun _ => rfl) hmk ki_FO (fs0 := [.null, .null, .null, .null, .null, .null, .null, .int 0]) rfl rfl rfl (fun _ => rfl) nq_FO_u z0_FO nq_SN_cl7 nq_FO_is mz_FO nq_SN_il9 nq_FO_mi nq_FO_mc nq_FO_n (Nat.le_of_ble_eq_true rfl) (Nat.le_of_ble_eq_true rfl) (Nat.le_of_ble_eq_true rfl) (Nat.le_of_ble_eq_true rfl) (by decide +kernel) (Nat.le_of_ble_eq_true rfl) nd_SN_5 nd_SN_8 nd_SN_9 nd_SN_12 (fun q5 u5 H locs hP hD hS => ?_)
  refine lv_aload_n hx hb nd_SN_15 rfl (lv_at hl 0 rfl) ?_
  refine nw_sub (r := ("SwitchedNets", T_SN, 8)) hx hb (hml.trans hl.1.symm) hts hown hin FI_SN (show sn_lk ft_SN 19 = some (6, 1) from rfl) rfl rfl hK hP hD hS hA (fun q => [.ref q5, .ref q, .null, .null, .null, .null, .null, .null]) (fun _ => rfl) hmk ki_ST (fs0 := [.null, .null, .null, .null, .null, .null, .null, .null, .null, .int 0, .int 0, .int 0, .int 0, .int 0, .int 0]) rfl rfl rfl (fun _ => rfl) nq_ST_u z0_ST nq_SN_cl16 nq_ST_is mz_ST nq_SN_il18 nq_ST_mi nq_ST_mc nq_ST_n (Nat.le_of_ble_eq_true rfl) (Nat.le_of_ble_eq_true rfl) (Nat.le_of_ble_eq_true rfl) (Nat.le_of_ble_eq_true rfl) (by decide +kernel) (Nat.le_of_ble_eq_true rfl) nd_SN_16 nd_SN_19 nd_SN_20 nd_SN_23 (fun q16 u16 H locs hP hD hS => ?_)
  refine lv_aload_n hx hb nd_SN_26 rfl (lv_at hl 0 rfl) ?_
  refine nw_sub (r := ("SwitchedNets", T_SN, 8)) hx hb (hml.trans hl.1.symm) hts hown hin FI_SN (show sn_lk ft_SN 23 = some (6, 2) from rfl) rfl rfl hK hP hD hS hA (fun q => [.ref q5, .ref q16, .ref q, .null, .null, .null, .null, .null]) (fun _ => rfl) hmk ki_ST (fs0 := [.null, .null, .null, .null, .null, .null, .null, .null, .null, .int 0, .int 0, .int 0, .int 0, .int 0, .int 0]) rfl rfl rfl (fun _ => rfl) nq_ST_u z0_ST nq_SN_cl16 nq_ST_is mz_ST nq_SN_il18 nq_ST_mi nq_ST_mc nq_ST_n (Nat.le_of_ble_eq_true rfl) (Nat.le_of_ble_eq_true rfl) (Nat.le_of_ble_eq_true rfl) (Nat.le_of_ble_eq_true rfl) (by decide +kernel) (Nat.le_of_ble_eq_true rfl) nd_SN_27 nd_SN_30 nd_SN_31 nd_SN_34 (fun q27 u27 H locs hP hD hS => ?_)
  refine lv_aload_n hx hb nd_SN_37 rfl (lv_at hl 0 rfl) ?_
  refine nw_sub (r := ("SwitchedNets", T_SN, 8)) hx hb (hml.trans hl.1.symm) hts hown hin FI_SN (show sn_lk ft_SN 26 = some (6, 3) from rfl) rfl rfl hK hP hD hS hA (fun q => [.ref q5, .ref q16, .ref q27, .ref q, .null, .null, .null, .null]) (fun _ => rfl) hmk ki_ST (fs0 := [.null, .null, .null, .null, .null, .null, .null, .null, .null, .int 0, .int 0, .int 0, .int 0, .int 0, .int 0]) rfl rfl rfl (fun _ => rfl) nq_ST_u z0_ST nq_SN_cl16 nq_ST_is mz_ST nq_SN_il18 nq_ST_mi nq_ST_mc nq_ST_n (Nat.le_of_ble_eq_true rfl) (Nat.le_of_ble_eq_true rfl) (Nat.le_of_ble_eq_true rfl) (Nat.le_of_ble_eq_true rfl) (by decide +kernel) (Nat.le_of_ble_eq_true rfl) nd_SN_38 nd_SN_41 nd_SN_42 nd_SN_45 (fun q38 u38 H locs hP hD hS => ?_)
  refine lv_aload_n hx hb nd_SN_48 rfl (lv_at hl 0 rfl) ?_
  refine nw_sub (r := ("SwitchedNets", T_SN, 8)) hx hb (hml.trans hl.1.symm) hts hown hin FI_SN (show sn_lk ft_SN 32 = some (6, 4) from rfl) rfl rfl hK hP hD hS hA (fun q => [.ref q5, .ref q16, .ref q27, .ref q38, .ref q, .null, .null, .null]) (fun _ => rfl) hmk ki_SW (fs0 := [.null, .null, .null, .null, .int 0]) rfl rfl rfl (fun _ => rfl) nq_SW_u z0_SW nq_SN_cl29 nq_SW_is mz_SW nq_SN_il31 nq_SW_mi nq_SW_mc nq_SW_n (Nat.le_of_ble_eq_true rfl) (Nat.le_of_ble_eq_true rfl) (Nat.le_of_ble_eq_true rfl) (Nat.le_of_ble_eq_true rfl) (by decide +kernel) (Nat.le_of_ble_eq_true rfl) nd_SN_49 nd_SN_52 nd_SN_53 nd_SN_56 (fun q49 u49 H locs hP hD hS => ?_)
  refine lv_aload_n hx hb nd_SN_59 rfl (lv_at hl 0 rfl) ?_
  refine nw_sub (r := ("SwitchedNets", T_SN, 8)) hx hb (hml.trans hl.1.symm) hts hown hin FI_SN (show sn_lk ft_SN 39 = some (6, 5) from rfl) rfl rfl hK hP hD hS hA (fun q => [.ref q5, .ref q16, .ref q27, .ref q38, .ref q49, .ref q, .null, .null]) (fun _ => rfl) hmk ki_PR (fs0 := [.null, .null, .null, .int 0, .long 0]) rfl rfl rfl (fun _ => rfl) nq_PR_u z0_PR nq_SN_cl36 nq_PR_is mz_PR nq_SN_il38 nq_PR_mi nq_PR_mc nq_PR_n (Nat.le_of_ble_eq_true rfl) (Nat.le_of_ble_eq_true rfl) (Nat.le_of_ble_eq_true rfl) (Nat.le_of_ble_eq_true rfl) (by decide +kernel) (Nat.le_of_ble_eq_true rfl) nd_SN_60 nd_SN_63 nd_SN_64 nd_SN_67 (fun q60 u60 H locs hP hD hS => ?_)
  refine lv_aload_n hx hb nd_SN_70 rfl (lv_at hl 0 rfl) ?_
  refine nw_sub (r := ("SwitchedNets", T_SN, 8)) hx hb (hml.trans hl.1.symm) hts hown hin FI_SN (show sn_lk ft_SN 46 = some (6, 6) from rfl) rfl rfl hK hP hD hS hA (fun q => [.ref q5, .ref q16, .ref q27, .ref q38, .ref q49, .ref q60, .ref q, .null]) (fun _ => rfl) hmk ki_LK (fs0 := [.null, .null, .null, .int 0]) rfl rfl rfl (fun _ => rfl) nq_LK_u z0_LK nq_SN_cl43 nq_LK_is mz_LK nq_SN_il45 nq_LK_mi nq_LK_mc nq_LK_n (Nat.le_of_ble_eq_true rfl) (Nat.le_of_ble_eq_true rfl) (Nat.le_of_ble_eq_true rfl) (Nat.le_of_ble_eq_true rfl) (by decide +kernel) (Nat.le_of_ble_eq_true rfl) nd_SN_71 nd_SN_74 nd_SN_75 nd_SN_78 (fun q71 u71 H locs hP hD hS => ?_)
  refine lv_aload_n hx hb nd_SN_81 rfl (lv_at hl 0 rfl) ?_
  refine nw_sub (r := ("SwitchedNets", T_SN, 8)) hx hb (hml.trans hl.1.symm) hts hown hin FI_SN (show sn_lk ft_SN 53 = some (6, 7) from rfl) rfl rfl hK hP hD hS hA (fun q => [.ref q5, .ref q16, .ref q27, .ref q38, .ref q49, .ref q60, .ref q71, .ref q]) (fun _ => rfl) hmk ki_LS (fs0 := [.null, .null, .null, .null, .null, .null, .null, .null, .int 0, .int 0, .int 0, .int 0, .int 0]) rfl rfl rfl (fun _ => rfl) nq_LS_u z0_LS nq_SN_cl50 nq_LS_is mz_LS nq_SN_il52 nq_LS_mi nq_LS_mc nq_LS_n (Nat.le_of_ble_eq_true rfl) (Nat.le_of_ble_eq_true rfl) (Nat.le_of_ble_eq_true rfl) (Nat.le_of_ble_eq_true rfl) (by decide +kernel) (Nat.le_of_ble_eq_true rfl) nd_SN_82 nd_SN_85 nd_SN_86 nd_SN_89 (fun q82 u82 H locs hP hD hS => ?_)
  have hP9 : va_P D sn_cl (w1_SN dA h0 (fun n => ([q5, u5 0, u5 1, u5 2, u5 3, u5 4, u5 5, u5 6, q16, u16 0, u16 1, u16 2, u16 3, u16 4, u16 5, u16 6, u16 7, u16 8, q27, u27 0, u27 1, u27 2, u27 3, u27 4, u27 5, u27 6, u27 7, u27 8, q38, u38 0, u38 1, u38 2, u38 3, u38 4, u38 5, u38 6, u38 7, u38 8, q49, u49 0, u49 1, u49 2, u49 3, q60, u60 0, u60 1, u60 2, q71, u71 0, u71 1, u71 2, q82, u82 0, u82 1, u82 2, u82 3, u82 4, u82 5, u82 6, u82 7, u82 8, u82 9, u82 10, u82 11, u82 12, u82 13, u82 14, u82 15, u82 16, u82 17, u82 18, u82 19, u82 20] : List Nat).getD n 0)) H := hP
  have hD9 : va_D A (w1_SN dA h0 (fun n => ([q5, u5 0, u5 1, u5 2, u5 3, u5 4, u5 5, u5 6, q16, u16 0, u16 1, u16 2, u16 3, u16 4, u16 5, u16 6, u16 7, u16 8, q27, u27 0, u27 1, u27 2, u27 3, u27 4, u27 5, u27 6, u27 7, u27 8, q38, u38 0, u38 1, u38 2, u38 3, u38 4, u38 5, u38 6, u38 7, u38 8, q49, u49 0, u49 1, u49 2, u49 3, q60, u60 0, u60 1, u60 2, q71, u71 0, u71 1, u71 2, q82, u82 0, u82 1, u82 2, u82 3, u82 4, u82 5, u82 6, u82 7, u82 8, u82 9, u82 10, u82 11, u82 12, u82 13, u82 14, u82 15, u82 16, u82 17, u82 18, u82 19, u82 20] : List Nat).getD n 0)) := hD
  exact hend H locs 92 _ (by decide +kernel) hP9 hD9 hS
