/-! What holds between two calls. -/
def fg (T T' : fT) : Prop := T.2 ≤ T'.2 ∧ (∀ a g, a ≠ 3 → g < T.2 → T'.1 a g = T.1 a g) ∧ ∀ g, g < T.2 → 0 ≤ T.1 3 g → T'.1 3 g = T.1 3 g
theorem fg_rf (T : fT) : fg T T := ⟨Nat.le_refl _, fun _ _ _ _ => rfl, fun _ _ _ => rfl⟩
/-- what is kept of an earlier search must not depend on more than its own cells, and stay true when formulas come -/
def in_F (LS : fT → sn_M → Prop) : Prop := (∀ T σ σ', LS T σ → (∀ a i j, 33 ≤ a → a ≤ 39 → σ'.1 a i j = σ.1 a i j) → LS T σ') ∧ ∀ T T' σ, LS T σ → fT_ok T → fg T T' → LS T' σ
def in_s (T : fT) (S S' : sT) (i : Nat) (σ : sn_M) : Prop := sx_v (s_X S) i σ ∧ my_v S' i σ ∧ s_eq S S' ∧ s_ok T S
def in_v (LS : fT → sn_M → Prop) (T : fT) (S0 S0' S1 S1' : sT) (σ : sn_M) : Prop := (fo_v T σ ∧ mt_v T σ ∧ fT_ok T ∧ T.2 ≤ 80) ∧ in_s T S0 S0' 0 σ ∧ in_s T S1 S1' 1 σ ∧ LS T σ
def in_I (LS : fT → sn_M → Prop) (_ : Nat) (σ : sn_M) : Prop := ∃ (T : fT) (S0 S0' S1 S1' : sT), in_v LS T S0 S0' S1 S1' σ
theorem fo_v_fr {P : Nat → Nat → Nat → Prop} {σ σ' : sn_M} {T : fT} (h : fo_v T σ) (f : sn_fr P σ σ') (hp : ∀ a c, 1 ≤ a → a ≤ 6 → ¬ P a 0 c) : fo_v T σ' := by
  obtain ⟨⟨h0, h1, h2, h3, h4⟩, h5⟩ := h
  refine ⟨⟨?_, ?_, ?_, ?_, ?_⟩, ?_⟩
  · rw [← h0]; funext c; exact f.2 _ _ _ (hp 2 c (by omega) (by omega))
  · rw [← h1]; funext c; exact f.2 _ _ _ (hp 3 c (by omega) (by omega))
  · rw [← h2]; funext c; exact f.2 _ _ _ (hp 4 c (by omega) (by omega))
  · rw [← h3]; funext c; exact f.2 _ _ _ (hp 5 c (by omega) (by omega))
  · rw [← h4]; funext c; exact f.2 _ _ _ (hp 6 c (by omega) (by omega))
  · rw [← h5]; exact f.2 _ _ _ (hp 1 7 (by omega) (by omega))
theorem mt_v_fr {P : Nat → Nat → Nat → Prop} {σ σ' : sn_M} {T : fT} (h : mt_v T σ) (f : sn_fr P σ σ') (hp : ∀ a c, 41 ≤ a → a ≤ 43 → ¬ P a 0 c) (h1 : ¬ P 40 0 1) : mt_v T σ' := by
  refine ⟨fun g hg => ?_, by rw [← h.2]; exact f.2 _ _ _ h1⟩
  obtain ⟨a, b, c⟩ := h.1 g hg
  exact ⟨(f.2 _ _ _ (hp 41 g (by omega) (by omega))).trans a, (f.2 _ _ _ (hp 42 g (by omega) (by omega))).trans b, (f.2 _ _ _ (hp 43 g (by omega) (by omega))).trans c⟩
theorem sx_v_fr {P : Nat → Nat → Nat → Prop} {σ σ' : sn_M} {X : sX} {i : Nat} (h : sx_v X i σ) (f : sn_fr P σ σ') (hp : ∀ a c, 9 ≤ a → a ≤ 18 → ¬ P a i c) : sx_v X i σ' := by
  refine ⟨fun a ha => ?_, fun j h1 h2 => ?_⟩
  · rw [← h.1 a ha]
    funext c
    exact f.2 _ _ _ (hp (10 + a) c (by omega) (by omega))
  · rw [← h.2 j h1 h2]
    exact f.2 _ _ _ (hp 9 j (by omega) (by omega))
theorem my_v_fr {P : Nat → Nat → Nat → Prop} {σ σ' : sn_M} {S : sT} {b : Nat} (h : my_v S b σ) (f : sn_fr P σ σ') (hp : ∀ a c, cp_P b a 0 c → ¬ P a 0 c) : my_v S b σ' := by
  obtain ⟨h1, h2, h3, h4, h5⟩ := h
  refine ⟨fun a l ha hl => ?_, fun a e g1 g2 he => ?_, ?_, ?_, ?_⟩
  · rw [← h1 a l ha hl]
    exact f.2 _ _ _ (hp _ _ (cp_l (by omega) (by omega) hl rfl))
  · rw [← h2 a e g1 g2 he]
    exact f.2 _ _ _ (hp _ _ (cp_g (by omega) (by omega) he rfl))
  · rw [← h3]
    exact f.2 _ _ _ (hp _ _ (cp_c (by omega)))
  · rw [← h4]
    exact f.2 _ _ _ (hp _ _ (cp_c (by omega)))
  · rw [← h5]
    exact f.2 _ _ _ (hp _ _ (cp_c (by omega)))
theorem cp_ab {a c : Nat} (h : cp_P 0 a 0 c) (g : cp_P 1 a 0 c) : False := by
  obtain ⟨-, h⟩ := h
  obtain ⟨-, g⟩ := g
  rcases h with ⟨h1, h2⟩ | ⟨h1, h2, h3, h4⟩ | ⟨h1, h2, h3, h4⟩ <;> rcases g with ⟨g1, g2⟩ | ⟨g1, g2, g3, g4⟩ | ⟨g1, g2, g3, g4⟩ <;> omega
theorem cp_46 {b a c : Nat} (h : cp_P b a 0 c) : 46 ≤ a ∧ a ≤ 57 := by
  obtain ⟨-, h⟩ := h
  rcases h with ⟨h1, h2⟩ | ⟨h1, h2, h3, h4⟩ | ⟨h1, h2, h3, h4⟩ <;> omega
/-- nothing that is seen has changed -/
def in_q (a b c : Nat) : Prop := ¬ (1 ≤ a ∧ a ≤ 6) ∧ ¬ (9 ≤ a ∧ a ≤ 18 ∧ b ≤ 1) ∧ ¬ (33 ≤ a ∧ a ≤ 39) ∧ ¬ (41 ≤ a ∧ a ≤ 43) ∧ ¬ (a = 40 ∧ c = 1) ∧ ¬ (46 ≤ a ∧ a ≤ 57)
theorem in_s_fr {P : Nat → Nat → Nat → Prop} {σ σ' : sn_M} {T : fT} {S S' : sT} {i : Nat} (h : in_s T S S' i σ) (f : sn_fr P σ σ') (h1 : ∀ a c, 9 ≤ a → a ≤ 18 → ¬ P a i c) (h2 : ∀ a c, cp_P i a 0 c → ¬ P a 0 c) : in_s T S S' i σ' := ⟨sx_v_fr h.1 f h1, my_v_fr h.2.1 f h2, h.2.2⟩
theorem in_v_q {LS : fT → sn_M → Prop} (hF : in_F LS) {T : fT} {S0 S0' S1 S1' : sT} {σ σ' : sn_M} (h : in_v LS T S0 S0' S1 S1' σ) (f : sn_fr in_q σ σ') : in_v LS T S0 S0' S1 S1' σ' := by
  obtain ⟨⟨h1, h2, h3, h4⟩, h5, h6, h7⟩ := h
  refine ⟨⟨fo_v_fr h1 f (fun a c g1 g2 q => q.1 ⟨g1, g2⟩), mt_v_fr h2 f (fun a c g1 g2 q => q.2.2.2.1 ⟨g1, g2⟩) (fun q => q.2.2.2.2.1 ⟨rfl, rfl⟩), h3, h4⟩, in_s_fr h5 f (fun a c g1 g2 q => q.2.1 ⟨g1, g2, by omega⟩) (fun a c g q => q.2.2.2.2.2 (cp_46 g)), in_s_fr h6 f (fun a c g1 g2 q => q.2.1 ⟨g1, g2, by omega⟩) (fun a c g q => q.2.2.2.2.2 (cp_46 g)), hF.1 T σ σ' h7 (fun a i j g1 g2 => f.2 a i j (fun q => q.2.2.1 ⟨g1, g2⟩))⟩
theorem in_c {LS : fT → sn_M → Prop} (hF : in_F LS) {T : fT} {S0 S0' S1 S1' : sT} {σ : sn_M} (h : in_v LS T S0 S0' S1 S1' σ) (v : Int) : in_v LS T S0 S0' S1 S1' (sn_u σ.1 40 0 0 v, σ.2) :=
  in_v_q hF h (sn_fr_u (sn_fr_rf _ σ) ⟨by omega, by omega, by omega, by omega, by omega, by omega⟩ v)
theorem in_ok {T : fT} {S S' : sT} {i : Nat} {σ : sn_M} (h : in_s T S S' i σ) (hi : i < 4) : md_ok σ i := by
  obtain ⟨-, ⟨-, -, m1, m2, m3⟩, e, hok⟩ := h
  have b1 := hok.1.1
  have b2 := hok.1.2.1
  rw [e.1] at m1 m2
  exact ⟨hi, by rw [m1]; omega, by rw [m2]; omega⟩
theorem in_ct {T : fT} {S S' : sT} {i : Nat} {σ : sn_M} (h : in_s T S S' i σ) (k : Int) : cn_ct (fun l => σ.1 49 0 (60 * i + l)) k (σ.1 46 0 i).toNat = cn_ct (S.1 0) k S.2.1 := by
  obtain ⟨-, ⟨r1, -, m1, m2, m3⟩, e, hok⟩ := h
  have b1 := hok.1.1
  rw [m1, e.1]
  refine cn_ct_ext k _ (fun l hl => ?_)
  rw [← e.2.1 0 l (by omega) hl]
  exact r1 0 l (by omega) (by omega)
theorem in_46 {T : fT} {S S' : sT} {i : Nat} {σ : sn_M} (h : in_s T S S' i σ) : σ.1 46 0 i = (S.2.1 : Int) ∧ σ.1 47 0 i = (S.2.2.1 : Int) ∧ σ.1 48 0 i = (S.2.2.2 : Int) := by
  obtain ⟨-, ⟨-, -, m1, m2, m3⟩, e, -⟩ := h
  rw [e.1] at m1 m2 m3
  exact ⟨m1, m2, m3⟩
theorem in_l {T : fT} {S S' : sT} {i : Nat} {σ : sn_M} (h : in_s T S S' i σ) {a l k x : Nat} (ha : a < 4) (hl : l < S.2.1) (hk : k = 49 + a) (hx : x = 60 * i + l) : σ.1 k 0 x = S.1 a l := by
  have b1 := h.2.2.2.1.1
  rw [my_rl h.2.1 ha (by omega) hk hx]
  exact h.2.2.1.2.1 a l ha hl
theorem in_e {T : fT} {S S' : sT} {i : Nat} {σ : sn_M} (h : in_s T S S' i σ) {a e k x : Nat} (ha : 4 ≤ a) (ha8 : a < 8) (he : e < S.2.2.1) (hk : k = 49 + a) (hx : x = 100 * i + e) : σ.1 k 0 x = S.1 a e := by
  have b1 := h.2.2.2.1.2.1
  rw [my_rg h.2.1 ha (by omega) (by omega) hk hx]
  exact h.2.2.1.2.2.1 a e ha ha8 he
theorem in_n {T : fT} {S S' : sT} {i : Nat} {σ : sn_M} (h : in_s T S S' i σ) {c x : Nat} (hc : c < S.2.2.2) (hx : x = 100 * i + c) : σ.1 57 0 x = S.1 8 c := by
  have b1 := h.2.2.2.1.2.2
  rw [my_rg h.2.1 (a := 8) (by omega) (by omega) (show c < 100 by omega) rfl hx]
  exact h.2.2.1.2.2.2 c hc
section OP
variable {LS : fT → sn_M → Prop} (hF : in_F LS)
theorem op_links : in_F LS → lw_O (in_I LS) 12 := by
  intro hF
  refine ⟨_, _, _, _, by decide, by decide, ct_SN_links, ct_MD_links, fun n σ xs i hI hn hR => ?_⟩
  obtain ⟨T, S0, S0', S1, S1', hv⟩ := hI
  have e11 : σ.1 9 0 11 = cn_ct (S0.1 0) (-1) S0.2.1 := sx_9 hv.2.1.1 (by omega)
  refine fun G => ⟨_, rfl, fun _ => fun G => ?_⟩
  have hc := in_c hF hv 0
  refine And.intro rfl (And.intro ⟨by omega, in_ok hc.2.1 (by omega)⟩ ⟨?_, T, S0, S0', S1, S1', hc⟩)
  show some (Sum.inl (cn_ct (fun l => (sn_u σ.1 40 0 0 0) 49 0 (60 * 0 + l)) (-1) ((sn_u σ.1 40 0 0 0) 46 0 0).toNat)) = some (Sum.inl (σ.1 9 0 11))
  rw [e11, in_ct hc.2.1 (-1)]
theorem op_cuts : in_F LS → lw_O (in_I LS) 15 := by
  intro hF
  refine ⟨_, _, _, _, by decide, by decide, ct_SN_cuts, ct_MD_cuts, fun n σ xs i hI hn hR => ?_⟩
  obtain ⟨T, S0, S0', S1, S1', hv⟩ := hI
  have e11 : σ.1 9 0 13 = cn_ct (S0.1 0) 3 S0.2.1 := sx_9 hv.2.1.1 (by omega)
  refine fun G => ⟨_, rfl, fun _ => fun G => ?_⟩
  have hc := in_c hF hv 0
  refine And.intro rfl (And.intro ⟨by omega, in_ok hc.2.1 (by omega)⟩ ⟨?_, T, S0, S0', S1, S1', hc⟩)
  show some (Sum.inl (cn_ct (fun l => (sn_u σ.1 40 0 0 0) 49 0 (60 * 0 + l)) 3 ((sn_u σ.1 40 0 0 0) 46 0 0).toNat)) = some (Sum.inl (σ.1 9 0 13))
  rw [e11, in_ct hc.2.1 3]
end OP
