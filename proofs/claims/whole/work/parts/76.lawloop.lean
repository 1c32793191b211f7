/-! The law's loop. -/
theorem lw_31 (x : Int32) : ∃ j : Nat, j < 32 ∧ (x &&& 31).toInt = (j : Int) := by
  have h1 : (x &&& 31).toBitVec = x.toBitVec &&& 31#32 := rfl
  have h2 : (x &&& 31).toBitVec.toNat ≤ 31 := by
    rw [h1, BitVec.toNat_and]
    exact Nat.and_le_right
  refine ⟨(x &&& 31).toBitVec.toNat, by omega, ?_⟩
  show BitVec.toInt _ = _
  exact BitVec.toInt_eq_toNat_of_lt (by omega)
section LL
variable {p : Program} {l : Launch} {e : Env} {R : Room} {s : State} {m : MethodId} {below : List Frame} {meth : Method} {c : Code} {Q : State → Prop} {C0 S0 : Nat}
variable {D : va_G} {dA : Nat → ClassId} {ad : sn_A} {b L : Nat} {xs : Nat → Int32} {Inv : Nat → sn_M → Prop}
theorem lw_loop (hops : ∀ j, j < 24 → lw_O Inv j) (hX : lw_X p s m c b L xs D dA lw_tw) (htr : l.stackTraces = false) (hR1 : 100 ≤ R.frames) (hR2 : 6000 ≤ R.locals) (hRc : C0 + 513 ≤ R.cells) (hRs : S0 + 6 * 513 ≤ R.slots)
    (hfin : ∀ (H : Heap) (locs : List Loc) (ls : Array Slot), va_S (fun q => s.heap.size ≤ q) s.heap H locs → W p l e R s m #[.ref b] below meth c H locs (C0 + 513) (S0 + 6 * 513) Q (F0 m 1034 ls [])) :
    ∀ (f it n : Nat) (σ : sn_M) (H : Heap) (locs : List Loc) (ls : Array Slot), L < 4 * it + 4 * f + 4 → it ≤ 512 → n ≤ it → Inv n σ → sn_Wd D dA ad (fun q => s.heap.size ≤ q) s.heap σ H locs → lw_L ls b ad (4 * it) → W p l e R s m #[.ref b] below meth c H locs (C0 + it) (S0 + 6 * it) Q (F0 m 23 ls []) := by
  intro f
  induction f with
  | zero =>
    intro it n σ H locs ls hf hit hn hI hW hl
    obtain ⟨hx, hb, hml, hown, hts, hK, hXs, hbl, hL, htw, hw⟩ := hX
    have hbA : ¬ (fun q => s.heap.size ≤ q) b := fun h => by have h1 : s.heap.size ≤ b := h; omega
    refine lv_iload hx hb ld_23 (lv_at hl 0 rfl) ?_
    refine lv_aload_n hx hb ld_25 rfl (lv_at hl 4 rfl) ?_
    refine va_slen hx hb hXs hbl hbA hW.2.2.1 ld_26 ?_
    refine lv_iconst hx hb ld_27 rfl ?_
    refine lv_isub hx hb ld_28 ?_
    have e1 : Int32.ofNat L - Int32.ofInt 4 = Int32.ofInt ((L : Int) - 4) := by rw [Int32.ofInt_sub]; rfl
    rw [e1]
    refine lv_icmp_gt hx hb ld_29 (tgt := 1034) (by decide) (fun _ => ?_) (fun h => ?_)
    · exact W.widen (by omega) (by omega) (hfin H locs ls hW.2.2.1)
    · exfalso
      apply h
      rw [sn_lt (by unfold sn_R; omega) (by unfold sn_R; omega)]
      omega
  | succ f ih =>
    intro it n σ H locs ls hf hit hn hI hW hl
    have hX0 := hX
    obtain ⟨hx, hb, hml, hown, hts, hK, hXs, hbl, hL, htw, hw⟩ := hX
    have hbA : ¬ (fun q => s.heap.size ≤ q) b := fun h => by have h1 : s.heap.size ≤ b := h; omega
    refine lv_iload hx hb ld_23 (lv_at hl 0 rfl) ?_
    refine lv_aload_n hx hb ld_25 rfl (lv_at hl 4 rfl) ?_
    refine va_slen hx hb hXs hbl hbA hW.2.2.1 ld_26 ?_
    refine lv_iconst hx hb ld_27 rfl ?_
    refine lv_isub hx hb ld_28 ?_
    have e1 : Int32.ofNat L - Int32.ofInt 4 = Int32.ofInt ((L : Int) - 4) := by rw [Int32.ofInt_sub]; rfl
    rw [e1]
    refine lv_icmp_gt hx hb ld_29 (tgt := 1034) (by decide) (fun _ => ?_) (fun h => ?_)
    · exact W.widen (by omega) (by omega) (hfin H locs ls hW.2.2.1)
    · rw [sn_lt (by unfold sn_R; omega) (by unfold sn_R; omega)] at h
      have hi : 4 * it + 3 < L := by omega
      have hit2 : it < 512 := by omega
      -- the next turn
      have next : ∀ (n' : Nat) (σ' : sn_M) (H1 : Heap) (locs1 : List Loc) (ls1 : Array Slot), n' ≤ it + 1 → Inv n' σ' → sn_Wd D dA ad (fun q => s.heap.size ≤ q) s.heap σ' H1 locs1 → lw_L ls1 b ad (4 * it) → W p l e R s m #[.ref b] below meth c H1 locs1 (C0 + it + 1) (S0 + 6 * it + 6) Q (F0 m 1028 ls1 []) := by
        intro n' σ' H1 locs1 ls1 hn' hI' hW1 hl1
        refine lv_iinc (k := 0) (v := Int32.ofInt ((4 * (it + 1) : Nat) : Int)) hx hb ld_1028 hl1 rfl (by rw [← Int32.ofInt_add]; congr 1) (by decide) rfl (fun ls2 hl2 => ?_)
        refine lv_goto hx hb ld_1031 (tgt := 23) (by decide) ?_
        have h3 := ih (it + 1) n' σ' H1 locs1 ls2 (by omega) (by omega) hn' hI' hW1 hl2
        rw [show S0 + 6 * (it + 1) = S0 + 6 * it + 6 by omega] at h3
        exact h3
      refine lv_aload_n hx hb ld_32 rfl (lv_at hl 4 rfl) ?_
      refine lv_iload hx hb ld_33 (lv_at hl 0 rfl) ?_
      refine va_sld hx hb hXs hbl hbA hW.2.2.1 (sn_vin (by unfold sn_R; omega) (by omega) (by omega)) ld_35 ?_
      refine lv_bipush hx hb ld_36 (v := 31) (by decide) ?_
      refine lv_iand hx hb ld_38 ?_
      obtain ⟨j, hj, hv⟩ := lw_31 (xs (Int32.ofInt ((4 * it : Nat) : Int)).toNatClampNeg)
      generalize xs (Int32.ofInt ((4 * it : Nat) : Int)).toNatClampNeg &&& 31 = w at hv ⊢
      by_cases hd : 23 < j
      · refine lv_tableOut hx hb ld_39 (Or.inr (by rw [hv]; omega)) (tgt := 1028) (by decide) ?_
        exact W.widen (by omega) (by omega) (next n σ H locs ls (by omega) hI hW hl)
      · have kk := fun (σ' : sn_M) (H1 : Heap) (locs1 : List Loc) (ls1 : Array Slot) (h1 : Inv (n + 1) σ') h2 h3 => next (n + 1) σ' H1 locs1 ls1 (by omega) h1 h2 h3
        have hcs : C0 + it + 1 ≤ R.cells ∧ S0 + 6 * it + 6 ≤ R.slots := ⟨by omega, by omega⟩
        have hn5 : n < 512 := by omega
        have hlo : ¬ w.toInt < 0 := by rw [hv]; omega
        have hhi : ¬ 23 < w.toInt := by rw [hv]; omega
        have hoff : (w.toInt - 0).toNat = j := by rw [hv]; omega
        have hj24 : j = 0 ∨ j = 1 ∨ j = 2 ∨ j = 3 ∨ j = 4 ∨ j = 5 ∨ j = 6 ∨ j = 7 ∨ j = 8 ∨ j = 9 ∨ j = 10 ∨ j = 11 ∨ j = 12 ∨ j = 13 ∨ j = 14 ∨ j = 15 ∨ j = 16 ∨ j = 17 ∨ j = 18 ∨ j = 19 ∨ j = 20 ∨ j = 21 ∨ j = 22 ∨ j = 23 := by omega
        rcases hj24 with rfl | rfl | rfl | rfl | rfl | rfl | rfl | rfl | rfl | rfl | rfl | rfl | rfl | rfl | rfl | rfl | rfl | rfl | rfl | rfl | rfl | rfl | rfl | rfl
        · exact lv_tableIn hx hb ld_39 hlo hhi (off := 109) (by rw [hoff]; rfl) (tgt := 148) (by decide) (lw_c0 (hops 0 (by decide)) hX0 htr hR1 hR2 hcs hI hn5 hW hl hi kk)
        · exact lv_tableIn hx hb ld_39 hlo hhi (off := 193) (by rw [hoff]; rfl) (tgt := 232) (by decide) (lw_c1 (hops 1 (by decide)) hX0 htr hR1 hR2 hcs hI hn5 hW hl hi kk)
        · exact lv_tableIn hx hb ld_39 hlo hhi (off := 289) (by rw [hoff]; rfl) (tgt := 328) (by decide) (lw_c2 (hops 2 (by decide)) hX0 htr hR1 hR2 hcs hI hn5 hW hl hi kk)
        · exact lv_tableIn hx hb ld_39 hlo hhi (off := 345) (by rw [hoff]; rfl) (tgt := 384) (by decide) (lw_c3 (hops 3 (by decide)) hX0 htr hR1 hR2 hcs hI hn5 hW hl hi kk)
        · exact lv_tableIn hx hb ld_39 hlo hhi (off := 382) (by rw [hoff]; rfl) (tgt := 421) (by decide) (lw_c4 (hops 4 (by decide)) hX0 htr hR1 hR2 hcs hI hn5 hW hl hi kk)
        · exact lv_tableIn hx hb ld_39 hlo hhi (off := 395) (by rw [hoff]; rfl) (tgt := 434) (by decide) (lw_c5 (hops 5 (by decide)) hX0 htr hR1 hR2 hcs hI hn5 hW hl hi kk)
        · exact lv_tableIn hx hb ld_39 hlo hhi (off := 451) (by rw [hoff]; rfl) (tgt := 490) (by decide) (lw_c6 (hops 6 (by decide)) hX0 htr hR1 hR2 hcs hI hn5 hW hl hi kk)
        · exact lv_tableIn hx hb ld_39 hlo hhi (off := 547) (by rw [hoff]; rfl) (tgt := 586) (by decide) (lw_c7 (hops 7 (by decide)) hX0 htr hR1 hR2 hcs hI hn5 hW hl hi kk)
        · exact lv_tableIn hx hb ld_39 hlo hhi (off := 615) (by rw [hoff]; rfl) (tgt := 654) (by decide) (lw_c8 (hops 8 (by decide)) hX0 htr hR1 hR2 hcs hI hn5 hW hl hi kk)
        · exact lv_tableIn hx hb ld_39 hlo hhi (off := 640) (by rw [hoff]; rfl) (tgt := 679) (by decide) (lw_c9 (hops 9 (by decide)) hX0 htr hR1 hR2 hcs hI hn5 hW hl hi kk)
        · exact lv_tableIn hx hb ld_39 hlo hhi (off := 677) (by rw [hoff]; rfl) (tgt := 716) (by decide) (lw_c10 (hops 10 (by decide)) hX0 htr hR1 hR2 hcs hI hn5 hW hl hi kk)
        · exact lv_tableIn hx hb ld_39 hlo hhi (off := 702) (by rw [hoff]; rfl) (tgt := 741) (by decide) (lw_c11 (hops 11 (by decide)) hX0 htr hR1 hR2 hcs hI hn5 hW hl hi kk)
        · exact lv_tableIn hx hb ld_39 hlo hhi (off := 727) (by rw [hoff]; rfl) (tgt := 766) (by decide) (lw_c12 (hops 12 (by decide)) hX0 htr hR1 hR2 hcs hI hn5 hW hl hi kk)
        · exact lv_tableIn hx hb ld_39 hlo hhi (off := 740) (by rw [hoff]; rfl) (tgt := 779) (by decide) (lw_c13 (hops 13 (by decide)) hX0 htr hR1 hR2 hcs hI hn5 hW hl hi kk)
        · exact lv_tableIn hx hb ld_39 hlo hhi (off := 753) (by rw [hoff]; rfl) (tgt := 792) (by decide) (lw_c14 (hops 14 (by decide)) hX0 htr hR1 hR2 hcs hI hn5 hW hl hi kk)
        · exact lv_tableIn hx hb ld_39 hlo hhi (off := 766) (by rw [hoff]; rfl) (tgt := 805) (by decide) (lw_c15 (hops 15 (by decide)) hX0 htr hR1 hR2 hcs hI hn5 hW hl hi kk)
        · exact lv_tableIn hx hb ld_39 hlo hhi (off := 779) (by rw [hoff]; rfl) (tgt := 818) (by decide) (lw_c16 (hops 16 (by decide)) hX0 htr hR1 hR2 hcs hI hn5 hW hl hi kk)
        · exact lv_tableIn hx hb ld_39 hlo hhi (off := 804) (by rw [hoff]; rfl) (tgt := 843) (by decide) (lw_c17 (hops 17 (by decide)) hX0 htr hR1 hR2 hcs hI hn5 hW hl hi kk)
        · exact lv_tableIn hx hb ld_39 hlo hhi (off := 829) (by rw [hoff]; rfl) (tgt := 868) (by decide) (lw_c18 (hops 18 (by decide)) hX0 htr hR1 hR2 hcs hI hn5 hW hl hi kk)
        · exact lv_tableIn hx hb ld_39 hlo hhi (off := 840) (by rw [hoff]; rfl) (tgt := 879) (by decide) (lw_c19 (hops 19 (by decide)) hX0 htr hR1 hR2 hcs hI hn5 hW hl hi kk)
        · exact lv_tableIn hx hb ld_39 hlo hhi (off := 853) (by rw [hoff]; rfl) (tgt := 892) (by decide) (lw_c20 (hops 20 (by decide)) hX0 htr hR1 hR2 hcs hI hn5 hW hl hi kk)
        · exact lv_tableIn hx hb ld_39 hlo hhi (off := 878) (by rw [hoff]; rfl) (tgt := 917) (by decide) (lw_c21 (hops 21 (by decide)) hX0 htr hR1 hR2 hcs hI hn5 hW hl hi kk)
        · exact lv_tableIn hx hb ld_39 hlo hhi (off := 903) (by rw [hoff]; rfl) (tgt := 942) (by decide) (lw_c22 (hops 22 (by decide)) hX0 htr hR1 hR2 hcs hI hn5 hW hl hi kk)
        · exact lv_tableIn hx hb ld_39 hlo hhi (off := 952) (by rw [hoff]; rfl) (tgt := 991) (by decide) (lw_c23 (hops 23 (by decide)) hX0 htr hR1 hR2 hcs hI hn5 hW hl hi kk)
end LL
