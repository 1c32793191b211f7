/-! Judging alike; judge and fault. -/
theorem md_fr {σ σ' : sn_M} {b : Nat} (h : ∀ k j, 46 ≤ k → k ≤ 57 → σ'.1 k 0 j = σ.1 k 0 j) : md_v σ' b = md_v σ b ∧ md_fa σ' b = md_fa σ b ∧ (md_cp σ' b ↔ md_cp σ b) := by
  have hk : ∀ k, 46 ≤ k → k ≤ 57 → σ'.1 k 0 = σ.1 k 0 := fun k h1 h2 => funext (fun j => h k j h1 h2)
  have g : md_g σ' b = md_g σ b := by
    funext s
    unfold md_g md_E
    rw [hk 46 (by omega) (by omega), hk 47 (by omega) (by omega), hk 49 (by omega) (by omega), hk 50 (by omega) (by omega), hk 51 (by omega) (by omega), hk 53 (by omega) (by omega), hk 54 (by omega) (by omega), hk 55 (by omega) (by omega)]
  have a : md_all σ' b = md_all σ b := by
    unfold md_all
    rw [hk 46 (by omega) (by omega), hk 49 (by omega) (by omega)]
  refine ⟨?_, ?_, ?_⟩
  · unfold md_v
    rw [g, a]
  · unfold md_fa
    rw [g, a]
  · unfold md_cp md_f md_e
    rw [hk 46 (by omega) (by omega), hk 47 (by omega) (by omega), hk 49 (by omega) (by omega), hk 53 (by omega) (by omega), hk 55 (by omega) (by omega), hk 56 (by omega) (by omega)]
theorem in_jd {T : fT} {S S' : sT} {i : Nat} {σ : sn_M} (h : in_s T S S' i σ) (hi : i < 4) : (cs_cp σ i ↔ md_cp σ i) ∧ (cs_v σ i = md_v σ i ∧ cs_fa σ i = md_fa σ i) ∧ st_in σ i ∧ gr_in σ i ∧ (0 ≤ σ.1 9 i 10 ∧ σ.1 9 i 10 ≤ 100) ∧ cn_ct (fun l => σ.1 49 0 (60 * i + l)) 2 (σ.1 46 0 i).toNat ≤ 8 := by
  have hok := h.2.2.2
  have hx := h.1
  have b1 := hok.1.1
  have b2 := hok.1.2.1
  have b3 := hok.1.2.2
  have e9 : σ.1 9 i 9 = (S.2.1 : Int) := sx_9 hx (by omega)
  have e10 : σ.1 9 i 10 = (S.2.2.1 : Int) := sx_9 hx (by omega)
  have e11 : σ.1 9 i 11 = cn_ct (S.1 0) (-1) S.2.1 := sx_9 hx (by omega)
  have e12 : σ.1 9 i 12 = cn_ct (S.1 0) 2 S.2.1 := sx_9 hx (by omega)
  have e13 : σ.1 9 i 13 = cn_ct (S.1 0) 3 S.2.1 := sx_9 hx (by omega)
  have e14 : σ.1 9 i 14 = (S.2.2.2 : Int) := sx_9 hx (by omega)
  have rw0 : σ.1 10 i = S.1 0 := hx.1 0 (by omega)
  have rw1 : σ.1 11 i = S.1 1 := hx.1 1 (by omega)
  have rw2 : σ.1 12 i = S.1 2 := hx.1 2 (by omega)
  have rw4 : σ.1 14 i = S.1 4 := hx.1 4 (by omega)
  have rw5 : σ.1 15 i = S.1 5 := hx.1 5 (by omega)
  have rw6 : σ.1 16 i = S.1 6 := hx.1 6 (by omega)
  have rw7 : σ.1 17 i = S.1 7 := hx.1 7 (by omega)
  have rw8 : σ.1 18 i = S.1 8 := hx.1 8 (by omega)
  obtain ⟨m1, m2, m3⟩ := in_46 h
  have tn : ∀ n : Nat, ((n : Int)).toNat = n := fun _ => rfl
  have sr : sr_ok σ i i := by
    refine ⟨e9.trans m1.symm, e10.trans m2.symm, e14.trans m3.symm, fun f l hf hl => ?_, fun f e hf he => ?_, fun j hj => ?_, ?_, ?_, ?_⟩
    · rw [e9] at hl
      rw [hx.1 f (by omega), in_l h hf (by omega) rfl rfl]
      rfl
    · rw [e10] at he
      rw [show (14 + f) = 10 + (4 + f) by omega, hx.1 (4 + f) (by omega), in_e h (a := 4 + f) (k := 53 + f) (by omega) (by omega) (by omega : e < S.2.2.1) (by omega) rfl]
      rfl
    · rw [e14] at hj
      rw [rw8, in_n h (by omega) rfl]
    · rw [e11, rw0, e9, tn]
    · rw [e12, rw0, e9, tn]
    · rw [e13, rw0, e9, tn]
  have w1 : ws_1 (σ.1 10 i) (σ.1 11 i) (σ.1 12 i) (σ.1 14 i) (σ.1 16 i) (σ.1 9 i 9).toNat (σ.1 9 i 10).toNat := by
    rw [rw0, rw1, rw2, rw4, rw6, e9, e10, tn, tn]
    intro l hl hk
    obtain ⟨a1, a2, a3, a4, a5⟩ := (hok.2.1 l hl).2.2.1 hk
    exact ⟨⟨a1.1, a1.2.1, a1.2.2, a4⟩, ⟨a2.1, a2.2.1, a2.2.2, a5⟩, a3⟩
  have w2 : ws_2 (σ.1 10 i) (σ.1 11 i) (σ.1 12 i) (σ.1 14 i) (σ.1 16 i) (σ.1 9 i 9).toNat (σ.1 9 i 10).toNat := by
    rw [rw0, rw1, rw2, rw4, rw6, e9, e10, tn, tn]
    intro e he hty hto
    have w := hok.2.2.1 e he
    have w3 := (w.2.2.2.2 hty).2.2.2.1 hto
    have w4 := w.2.1
    have w5 := (hok.2.1 (S.1 6 e).toNat (by omega)).1
    exact ⟨w4.2, ⟨w3.1, w5.2⟩, w3.2⟩
  have w3 : ∀ e : Nat, (e : Int) < σ.1 9 i 10 → 0 ≤ σ.1 16 i e → σ.1 16 i e < σ.1 9 i 9 := by
    intro e he hto
    rw [e10] at he
    rw [rw6, e9]
    exact (hok.2.2.1 e (by omega)).2.1.2
  have w4 : ∀ e : Nat, (e : Int) < σ.1 9 i 10 → -1 ≤ σ.1 14 i e ∧ -1 ≤ σ.1 16 i e ∧ -1 ≤ σ.1 17 i e := by
    intro e he
    rw [e10] at he
    rw [rw4, rw6, rw7]
    have w := hok.2.2.1 e (by omega)
    exact ⟨w.1.1, w.2.1.1, w.2.2.1.1⟩
  have c1 := hok.2.2.2.2.1
  have c2 := hok.2.2.2.2.2
  have c3 := (cn_ct_b (S.1 0) (-1) S.2.1)
  refine ⟨sr_cp sr (by rw [e9]; omega) w4, sr_judge sr (by rw [e9]; omega) (by rw [e10]; omega) w1 w2 w3, ?_, ?_, by rw [e10]; omega, by rw [in_ct h 2]; exact c2⟩
  · refine ⟨by rw [e9]; omega, by rw [e11]; omega, ⟨by rw [e12, rw0, e9, tn], by rw [e12]; exact c2⟩, fun l hl hk => ?_⟩
    rw [e9] at hl
    rw [rw0] at hk
    obtain ⟨a1, a2, -⟩ := (hok.2.1 l (by omega)).2.2.1 hk
    rw [rw1, rw2, rw5, e9]
    have q1 := (hok.2.2.1 (S.1 1 l).toNat (by have := a1.1; have := a1.2.1; omega)).2.2.2.1
    have q2 := (hok.2.2.1 (S.1 2 l).toNat (by have := a2.1; have := a2.2.1; omega)).2.2.2.1
    exact ⟨⟨a1.1, by have := a1.2.1; omega⟩, ⟨a2.1, by have := a2.2.1; omega⟩, q1, q2⟩
  · refine ⟨in_ok h hi, fun e he => ?_, fun t ht => ?_⟩
    · rw [m2] at he
      have w := hok.2.2.1 e (by omega)
      rw [in_e h (a := 5) (k := 54) (by omega) (by omega) (by omega : e < S.2.2.1) rfl rfl, in_e h (a := 6) (k := 55) (by omega) (by omega) (by omega : e < S.2.2.1) rfl rfl]
      have := w.2.1
      have := w.2.2.2.1
      rw [m1]
      omega
    · rw [m1] at ht
      have hm := cn_ct_mono (S.1 0) 2 (show t ≤ S.2.1 by omega)
      rw [cn_ct_ext (f := fun l => σ.1 49 0 (60 * i + l)) (g := S.1 0) 2 t (fun l hl => in_l h (a := 0) (by omega) (by omega) rfl rfl)]
      omega
