/-! Making the dual of a formula with all that it needs: what it adds, and how much. -/
abbrev fT := (Nat → Nat → Int) × Nat
def oc_mn (x y : Int) : Int := if (9 : Int) < x + y then 9 else x + y
def oc_ok (K L R o : Nat → Int) (n : Nat) : Prop := ∀ f, f < n → (K f = 0 → o f = 1) ∧ (¬ K f = 0 → o f = oc_mn (o (L f).toNat) (o (R f).toNat))
def fT_ok (T : fT) : Prop := tb_w (T.1 0) (T.1 1) (T.1 2) T.2 ∧ tb_u (T.1 0) (T.1 1) (T.1 2) T.2 ∧ dp_ok (T.1 0) (T.1 1) (T.1 2) T.2 (T.1 3) ∧ d_inv T.2 (T.1 3) ∧ oc_ok (T.1 0) (T.1 1) (T.1 2) (T.1 4) T.2
def fT_add (T : fT) (k l r x : Int) : fT := (fun a => match a with
  | 0 => sn_up (T.1 0) T.2 k
  | 1 => sn_up (T.1 1) T.2 l
  | 2 => sn_up (T.1 2) T.2 r
  | 3 => dx_d (T.1 3) T.2 x
  | 4 => sn_up (T.1 4) T.2 (if k = 0 then 1 else oc_mn (T.1 4 l.toNat) (T.1 4 r.toNat))
  | a + 5 => T.1 (a + 5), T.2 + 1)
theorem oc_add {K L R o : Nat → Int} {n : Nat} {k l r : Int} (hw : tb_w K L R n) (ho : oc_ok K L R o n) (hn : tb_new K L R n k l r) : oc_ok (sn_up K n k) (sn_up L n l) (sn_up R n r) (sn_up o n (if k = 0 then 1 else oc_mn (o l.toNat) (o r.toNat))) (n + 1) := by
  intro f hf
  by_cases e : f = n
  · subst e
    rw [sn_up_at, sn_up_at, sn_up_at, sn_up_at]
    refine ⟨fun z => if_pos z, fun z => ?_⟩
    rcases hn.1 with ⟨z', -⟩ | ⟨-, hl, hr⟩
    · exact absurd z' z
    · rw [if_neg z, sn_up_ne _ (by omega), sn_up_ne _ (by omega)]
  · rw [sn_up_ne _ e, sn_up_ne _ e, sn_up_ne _ e, sn_up_ne _ e]
    refine ⟨(ho f (by omega)).1, fun z => ?_⟩
    rcases hw f (by omega) with ⟨z', -⟩ | ⟨-, hl, hr⟩
    · exact absurd z' z
    · rw [sn_up_ne _ (by omega), sn_up_ne _ (by omega)]
      exact (ho f (by omega)).2 z
theorem oc_b {K L R o : Nat → Int} {n : Nat} (hw : tb_w K L R n) (ho : oc_ok K L R o n) : ∀ f, f < n → 1 ≤ o f ∧ o f ≤ 9 := by
  intro f
  induction f using Nat.strongRecOn with
  | ind f ih =>
    intro hf
    rcases hw f hf with ⟨hk, -, -⟩ | ⟨hk, hl, hr⟩
    · rw [(ho f hf).1 hk]; omega
    · have a := ih (L f).toNat (by omega) (by omega)
      have b := ih (R f).toNat (by omega) (by omega)
      rw [(ho f hf).2 (by omega)]
      unfold oc_mn
      split <;> omega
theorem fT_add_ok {T : fT} {k l r x : Int} (h : fT_ok T) (hn : tb_new (T.1 0) (T.1 1) (T.1 2) T.2 k l r) (hx : dx_is (T.1 0) (T.1 1) (T.1 2) T.2 (T.1 3) k l r x) : fT_ok (fT_add T k l r x) := by
  obtain ⟨h1, h2, h3, h4, h5⟩ := h
  have hd := tb_add_d h1 h2 h3 h4 hn hx
  exact ⟨tb_add_w h1 hn, tb_add_u h2 hn, hd.1, hd.2, oc_add h1 h5 hn⟩
/-- the dual of f is added -/
def dl_a (T : fT) (f : Nat) : fT := fT_add T (if T.1 0 f = 0 then 0 else 3 - T.1 0 f) (if T.1 0 f = 0 then T.1 1 f else T.1 3 (T.1 1 f).toNat) (if T.1 0 f = 0 then 1 - T.1 2 f else T.1 3 (T.1 2 f).toNat) (f : Int)
def dl_r (T : fT) (f : Nat) : Prop := ¬ T.1 0 f = 0 → 0 ≤ T.1 3 (T.1 1 f).toNat ∧ 0 ≤ T.1 3 (T.1 2 f).toNat
theorem dl_new {T : fT} {f : Nat} (h : fT_ok T) (hf : f < T.2) (hd : T.1 3 f < 0) (hr : dl_r T f) : tb_new (T.1 0) (T.1 1) (T.1 2) T.2 (if T.1 0 f = 0 then 0 else 3 - T.1 0 f) (if T.1 0 f = 0 then T.1 1 f else T.1 3 (T.1 1 f).toNat) (if T.1 0 f = 0 then 1 - T.1 2 f else T.1 3 (T.1 2 f).toNat) ∧ dx_is (T.1 0) (T.1 1) (T.1 2) T.2 (T.1 3) (if T.1 0 f = 0 then 0 else 3 - T.1 0 f) (if T.1 0 f = 0 then T.1 1 f else T.1 3 (T.1 1 f).toNat) (if T.1 0 f = 0 then 1 - T.1 2 f else T.1 3 (T.1 2 f).toNat) (f : Int) := by
  obtain ⟨h1, h2, h3, h4, -⟩ := h
  have hno : ∀ {a b c : Int}, fm_F (T.1 0) (T.1 1) (T.1 2) T.2 a b c (T.1 3 f) → ∀ j, j < T.2 → ¬ fm_M (T.1 0) (T.1 1) (T.1 2) a b c j := by
    intro a b c z
    rcases z with ⟨-, z⟩ | ⟨j, -, z, -⟩
    · exact z
    · omega
  by_cases hk : T.1 0 f = 0
  · rw [if_pos hk, if_pos hk, if_pos hk]
    rcases h1 f hf with ⟨-, hl, hr2⟩ | ⟨hk2, -, -⟩
    · refine ⟨⟨Or.inl ⟨rfl, hl, by omega⟩, hno ((h3 f hf).1 hk)⟩, fun _ => Or.inr ⟨f, hf, rfl, hk, rfl, by omega⟩, fun z => absurd rfl z⟩
    · omega
  · rw [if_neg hk, if_neg hk, if_neg hk]
    obtain ⟨r1, r2⟩ := hr hk
    rcases h1 f hf with ⟨z, -⟩ | ⟨hk2, hl, hr2⟩
    · exact absurd z hk
    · have b1 := dp_b (h3 (T.1 1 f).toNat (by omega))
      have b2 := dp_b (h3 (T.1 2 f).toNat (by omega))
      have i1 := h4 (T.1 1 f).toNat (by omega) r1
      have i2 := h4 (T.1 2 f).toNat (by omega) r2
      refine ⟨⟨Or.inr ⟨by omega, ⟨r1, b1.2⟩, ⟨r2, b2.2⟩⟩, hno (((h3 f hf).2 hk).2 r1 r2)⟩, fun z => by omega, fun _ => ⟨fun z => ?_, fun _ _ => Or.inr ⟨f, hf, rfl, by omega, by omega, by omega⟩⟩⟩
      rw [i1, i2] at z
      omega
theorem dl_a_ok {T : fT} {f : Nat} (h : fT_ok T) (hf : f < T.2) (hd : T.1 3 f < 0) (hr : dl_r T f) : fT_ok (dl_a T f) := fT_add_ok h (dl_new h hf hd hr).1 (dl_new h hf hd hr).2
theorem dl_a_s {T : fT} {f a g : Nat} (ha : a ≠ 3) (hg : g < T.2) : (dl_a T f).1 a g = T.1 a g := by
  match a, ha with
  | 0, _ => exact sn_up_ne _ (by omega)
  | 1, _ => exact sn_up_ne _ (by omega)
  | 2, _ => exact sn_up_ne _ (by omega)
  | 4, _ => exact sn_up_ne _ (by omega)
  | a + 5, _ => rfl
theorem dl_a_n {T : fT} {f : Nat} (hf : f < T.2) : (dl_a T f).1 3 T.2 = (f : Int) := dx_d_n (d := T.1 3) (n := T.2) (x := (f : Int)) (by omega) (by omega)
theorem dl_a_f (T : fT) (f : Nat) : (dl_a T f).1 3 f = (T.2 : Int) := dx_d_x (d := T.1 3) (n := T.2) (x := (f : Int)) (by omega)
theorem dl_a_o {T : fT} {f g : Nat} (h1 : g < T.2) (h2 : g ≠ f) : (dl_a T f).1 3 g = T.1 3 g := dx_d_o (d := T.1 3) (n := T.2) (x := (f : Int)) (by omega) (by omega) (by omega)
/-- counting -/
def cB (p : Nat → Bool) : Nat → Nat
  | 0 => 0
  | n + 1 => cB p n + (bif p n then 1 else 0)
theorem cB_c {p q : Nat → Bool} : ∀ {n : Nat}, (∀ g, g < n → p g = q g) → cB p n = cB q n := by
  intro n
  induction n with
  | zero => intro _; rfl
  | succ n ih =>
    intro h
    show cB p n + _ = cB q n + _
    rw [ih (fun g hg => h g (by omega)), h n (by omega)]
theorem cB_one {p q : Nat → Bool} {f : Nat} : ∀ {n : Nat}, f < n → p f = true → q f = false → (∀ g, g < n → g ≠ f → q g = p g) → cB p n = cB q n + 1 := by
  intro n
  induction n with
  | zero => intro h; omega
  | succ n ih =>
    intro hf h1 h2 h3
    show cB p n + _ = cB q n + _ + 1
    by_cases e : f = n
    · subst e
      rw [h1, h2, cB_c (p := p) (q := q) (fun g hg => (h3 g (by omega) (by omega)).symm)]
      rfl
    · rw [ih (by omega) h1 h2 (fun g hg => h3 g (by omega)), h3 n (by omega) (by omega)]
      omega
theorem cB_sp (p q : Nat → Bool) : ∀ n, cB p n = cB (fun g => p g && q g) n + cB (fun g => p g && !q g) n := by
  intro n
  induction n with
  | zero => rfl
  | succ n ih =>
    show cB p n + (bif p n then 1 else 0) = (cB (fun g => p g && q g) n + (bif p n && q n then 1 else 0)) + (cB (fun g => p g && !q g) n + (bif p n && !q n then 1 else 0))
    rw [ih]
    cases p n <;> cases q n <;> simp <;> omega
theorem cB_0 {p : Nat → Bool} : ∀ {n : Nat}, (∀ g, g < n → p g = false) → cB p n = 0 := by
  intro n
  induction n with
  | zero => intro _; rfl
  | succ n ih =>
    intro h
    show cB p n + _ = 0
    rw [ih (fun g hg => h g (by omega)), h n (by omega)]
    rfl
theorem cB_tail {p : Nat → Bool} {n : Nat} : ∀ k, (∀ g, n ≤ g → g < n + k → p g = false) → cB p (n + k) = cB p n := by
  intro k
  induction k with
  | zero => intro _; rfl
  | succ k ih =>
    intro h
    show cB p (n + k) + (bif p (n + k) then 1 else 0) = _
    rw [ih (fun g h1 h2 => h g h1 (by omega)), h (n + k) (by omega) (by omega)]
    rfl
def ms (T : fT) : Nat := cB (fun g => decide (T.1 3 g < 0)) T.2
theorem dl_a_ms {T : fT} {f : Nat} (hf : f < T.2) (hd : T.1 3 f < 0) : (dl_a T f).2 + ms (dl_a T f) = T.2 + ms T := by
  have e1 : ms (dl_a T f) = cB (fun g => decide ((dl_a T f).1 3 g < 0)) T.2 := by
    show cB _ T.2 + (bif decide ((dl_a T f).1 3 T.2 < 0) then 1 else 0) = _
    rw [dl_a_n hf, decide_eq_false (by omega)]
    rfl
  have e2 : ms T = cB (fun g => decide ((dl_a T f).1 3 g < 0)) T.2 + 1 := by
    refine cB_one hf (decide_eq_true hd) (decide_eq_false ?_) (fun g hg hne => ?_)
    · rw [dl_a_f]; omega
    · show decide ((dl_a T f).1 3 g < 0) = decide (T.1 3 g < 0)
      rw [dl_a_o hg hne]
  rw [e1, e2]
  show T.2 + 1 + _ = _
  omega
/-- g is a part of f -/
def pt (K L R : Nat → Int) (f g : Nat) : Prop := ∀ M : Nat → Prop, M f → (∀ k, M k → ¬ K k = 0 → M (L k).toNat ∧ M (R k).toNat) → M g
theorem pt_rf (K L R : Nat → Int) (f : Nat) : pt K L R f f := fun _ h _ => h
theorem pt_st {K L R : Nat → Int} {f k : Nat} (h : pt K L R f k) (hk : ¬ K k = 0) : pt K L R f (L k).toNat ∧ pt K L R f (R k).toNat := ⟨fun M h1 h2 => (h2 k (h M h1 h2) hk).1, fun M h1 h2 => (h2 k (h M h1 h2) hk).2⟩
theorem pt_iff {K L R : Nat → Int} {f g : Nat} : pt K L R f g ↔ (g = f ∨ (¬ K f = 0 ∧ (pt K L R (L f).toNat g ∨ pt K L R (R f).toNat g))) := by
  constructor
  · intro h
    refine h (fun g => g = f ∨ (¬ K f = 0 ∧ (pt K L R (L f).toNat g ∨ pt K L R (R f).toNat g))) (Or.inl rfl) (fun k hk hk0 => ?_)
    rcases hk with rfl | ⟨h0, h1 | h1⟩
    · exact ⟨Or.inr ⟨hk0, Or.inl (pt_rf _ _ _ _)⟩, Or.inr ⟨hk0, Or.inr (pt_rf _ _ _ _)⟩⟩
    · exact ⟨Or.inr ⟨h0, Or.inl (pt_st h1 hk0).1⟩, Or.inr ⟨h0, Or.inl (pt_st h1 hk0).2⟩⟩
    · exact ⟨Or.inr ⟨h0, Or.inr (pt_st h1 hk0).1⟩, Or.inr ⟨h0, Or.inr (pt_st h1 hk0).2⟩⟩
  · rintro (rfl | ⟨h0, h1 | h1⟩)
    · exact pt_rf _ _ _ _
    · exact fun M a b => h1 M (b f a h0).1 b
    · exact fun M a b => h1 M (b f a h0).2 b
theorem pt_le {K L R : Nat → Int} {n f g : Nat} (hw : tb_w K L R n) (hf : f < n) (h : pt K L R f g) : g ≤ f := by
  refine h (fun g => g ≤ f) (Nat.le_refl _) (fun k hk hk0 => ?_)
  rcases hw k (Nat.lt_of_le_of_lt hk hf) with ⟨z, -⟩ | ⟨-, hl, hr⟩
  · exact absurd z hk0
  · constructor <;> show _ ≤ _ <;> omega
theorem pt_c {K L R K' L' R' : Nat → Int} {n f g : Nat} (hw : tb_w K L R n) (hf : f < n) (e : ∀ k, k < n → K' k = K k ∧ L' k = L k ∧ R' k = R k) (h : pt K L R f g) : pt K' L' R' f g := by
  intro M h1 h2
  refine (h (fun g => g < n ∧ M g) ⟨hf, h1⟩ (fun k hk hk0 => ?_)).2
  obtain ⟨e1, e2, e3⟩ := e k hk.1
  have q := h2 k hk.2 (by rw [e1]; exact hk0)
  rw [e2, e3] at q
  rcases hw k hk.1 with ⟨z, -⟩ | ⟨-, hl, hr⟩
  · exact absurd z hk0
  · exact ⟨⟨by omega, q.1⟩, ⟨by omega, q.2⟩⟩
def dl (m f : Nat) (T T' : fT) : Prop := match m with
  | 0 => False
  | m + 1 => (0 ≤ T.1 3 f ∧ T' = T) ∨ (T.1 3 f < 0 ∧ T.1 0 f = 0 ∧ T' = dl_a T f) ∨ (T.1 3 f < 0 ∧ ¬ T.1 0 f = 0 ∧ ∃ T1 T2, dl m (T.1 1 f).toNat T T1 ∧ dl m (T.1 2 f).toNat T1 T2 ∧ T2.1 3 f < 0 ∧ T' = dl_a T2 f)
def dl_k (T T' : fT) : Prop := fT_ok T' ∧ T.2 ≤ T'.2 ∧ (∀ a g, a ≠ 3 → g < T.2 → T'.1 a g = T.1 a g) ∧ (∀ g, g < T.2 → 0 ≤ T.1 3 g → T'.1 3 g = T.1 3 g) ∧ (∀ g, T.2 ≤ g → g < T'.2 → 0 ≤ T'.1 3 g) ∧ T'.2 + ms T' = T.2 + ms T
theorem dl_k_t {T T1 T2 : fT} (h : dl_k T T1) (g : dl_k T1 T2) : dl_k T T2 := by
  obtain ⟨-, a2, a3, a4, a5, a6⟩ := h
  obtain ⟨b1, b2, b3, b4, b5, b6⟩ := g
  refine ⟨b1, by omega, fun a g h1 h2 => (b3 a g h1 (by omega)).trans (a3 a g h1 h2), fun g h1 h2 => ?_, fun g h1 h2 => ?_, by omega⟩
  · have e := a4 g h1 h2
    rw [b4 g (by omega) (by omega), e]
  · by_cases z : g < T1.2
    · have e := a5 g h1 z
      rw [b4 g z e]
      exact e
    · exact b5 g (by omega) h2
theorem dl_k_a {T : fT} {f : Nat} (h : fT_ok T) (hf : f < T.2) (hd : T.1 3 f < 0) (hr : dl_r T f) : dl_k T (dl_a T f) := by
  refine ⟨dl_a_ok h hf hd hr, Nat.le_succ _, fun a g h1 h2 => dl_a_s h1 h2, fun g h1 h2 => dl_a_o h1 (fun z => by rw [z] at h2; omega), fun g h1 h2 => ?_, dl_a_ms hf hd⟩
  have h2 : g < T.2 + 1 := h2
  have e : g = T.2 := by omega
  rw [e, dl_a_n hf]
  omega
def dl_b (T : fT) (f : Nat) (T' : fT) : Prop := ∀ g, g < T.2 → (0 ≤ T'.1 3 g ↔ (0 ≤ T.1 3 g ∨ pt (T.1 0) (T.1 1) (T.1 2) f g))
theorem dl_ex : ∀ (m f : Nat) (T : fT), fT_ok T → f < T.2 → f < m → ∃ T', dl m f T T' ∧ dl_k T T' ∧ dl_b T f T' := by
  intro m
  induction m with
  | zero => intro f T _ _ h; omega
  | succ m ih =>
    intro f T hT hf hm
    by_cases hd : 0 ≤ T.1 3 f
    · refine ⟨T, Or.inl ⟨hd, rfl⟩, ⟨hT, Nat.le_refl _, fun _ _ _ _ => rfl, fun _ _ _ => rfl, fun g h1 h2 => by omega, rfl⟩, fun g hg => ⟨Or.inl, fun z => ?_⟩⟩
      rcases z with z | z
      · exact z
      · refine (z (fun g => g < T.2 ∧ 0 ≤ T.1 3 g) ⟨hf, hd⟩ (fun k hk hk0 => ?_)).2
        obtain ⟨h1, -, h3, -, -⟩ := hT
        rcases h1 k hk.1 with ⟨z, -⟩ | ⟨-, hl, hr⟩
        · exact absurd z hk0
        · obtain ⟨q1, -⟩ := (h3 k hk.1).2 hk0
          have hk2 := hk.2
          refine ⟨⟨by omega, ?_⟩, ⟨by omega, ?_⟩⟩
          · by_cases y : 0 ≤ T.1 3 (T.1 1 k).toNat
            · exact y
            · have := q1 (Or.inl (by omega)); omega
          · by_cases y : 0 ≤ T.1 3 (T.1 2 k).toNat
            · exact y
            · have := q1 (Or.inr (by omega)); omega
    · have hd : T.1 3 f < 0 := by omega
      by_cases hk : T.1 0 f = 0
      · refine ⟨dl_a T f, Or.inr (Or.inl ⟨hd, hk, rfl⟩), dl_k_a hT hf hd (fun z => absurd hk z), fun g hg => ?_⟩
        by_cases e : g = f
        · subst e
          rw [dl_a_f]
          exact ⟨fun _ => Or.inr (pt_rf _ _ _ _), fun _ => by omega⟩
        · rw [dl_a_o hg e]
          refine ⟨Or.inl, fun z => ?_⟩
          rcases z with z | z
          · exact z
          · rcases pt_iff.mp z with z | z
            · exact absurd z e
            · exact absurd hk z.1
      · have hw := hT.1
        rcases hw f hf with ⟨z, -⟩ | ⟨-, hl, hr⟩
        · exact absurd z hk
        · obtain ⟨T1, d1, k1, b1⟩ := ih (T.1 1 f).toNat T hT (by omega) (by omega)
          obtain ⟨T2, d2, k2, b2⟩ := ih (T.1 2 f).toNat T1 k1.1 (by have := k1.2.1; omega) (by omega)
          have k12 := dl_k_t k1 k2
          have hn1 := k1.2.1
          have ev : ∀ k, k < T.2 → T1.1 0 k = T.1 0 k ∧ T1.1 1 k = T.1 1 k ∧ T1.1 2 k = T.1 2 k := fun k hk => ⟨k1.2.2.1 0 k (by omega) hk, k1.2.2.1 1 k (by omega) hk, k1.2.2.1 2 k (by omega) hk⟩
          have hw1 : tb_w (T1.1 0) (T1.1 1) (T1.1 2) T.2 := fun k hk => k1.1.1 k (by omega)
          have p1 : ∀ {g : Nat}, pt (T1.1 0) (T1.1 1) (T1.1 2) (T.1 2 f).toNat g ↔ pt (T.1 0) (T.1 1) (T.1 2) (T.1 2 f).toNat g := fun {g} => ⟨fun z => pt_c hw1 (by omega) (fun k hk => ⟨(ev k hk).1.symm, (ev k hk).2.1.symm, (ev k hk).2.2.symm⟩) z, fun z => pt_c hw (by omega) ev z⟩
          have b12 : ∀ g, g < T.2 → (0 ≤ T2.1 3 g ↔ (0 ≤ T.1 3 g ∨ pt (T.1 0) (T.1 1) (T.1 2) (T.1 1 f).toNat g ∨ pt (T.1 0) (T.1 1) (T.1 2) (T.1 2 f).toNat g)) := by
            intro g hg
            rw [b2 g (by omega), b1 g hg, p1]
            exact or_assoc
          have hd2 : T2.1 3 f < 0 := by
            by_cases z : 0 ≤ T2.1 3 f
            · rcases (b12 f hf).mp z with z | z | z
              · omega
              · have := pt_le hw (by omega) z; omega
              · have := pt_le hw (by omega) z; omega
            · omega
          have e0 : ∀ a, a ≠ 3 → T2.1 a f = T.1 a f := fun a ha => k12.2.2.1 a f ha hf
          have hr2 : dl_r T2 f := by
            intro _
            rw [e0 1 (by omega), e0 2 (by omega)]
            exact ⟨(b12 _ (by omega)).mpr (Or.inr (Or.inl (pt_rf _ _ _ _))), (b12 _ (by omega)).mpr (Or.inr (Or.inr (pt_rf _ _ _ _)))⟩
          have hn2 := k12.2.1
          refine ⟨dl_a T2 f, Or.inr (Or.inr ⟨hd, hk, T1, T2, d1, d2, hd2, rfl⟩), dl_k_t k12 (dl_k_a k12.1 (by omega) hd2 hr2), fun g hg => ?_⟩
          by_cases e : g = f
          · subst e
            rw [dl_a_f]
            exact ⟨fun _ => Or.inr (pt_rf _ _ _ _), fun _ => by omega⟩
          · rw [dl_a_o (by omega) e, b12 g hg, pt_iff (f := f)]
            constructor
            · rintro (z | z | z)
              · exact Or.inl z
              · exact Or.inr (Or.inr ⟨hk, Or.inl z⟩)
              · exact Or.inr (Or.inr ⟨hk, Or.inr z⟩)
            · rintro (z | z | ⟨-, z | z⟩)
              · exact Or.inl z
              · exact absurd z e
              · exact Or.inr (Or.inl z)
              · exact Or.inr (Or.inr z)
/-- how many it adds -/
theorem dl_n {T T' : fT} {f : Nat} (hf : f < T.2) (hw : tb_w (T.1 0) (T.1 1) (T.1 2) T.2) (k : dl_k T T') (b : dl_b T f T') (q : Nat → Bool) (hq : ∀ g, g ≤ f → (q g = true ↔ pt (T.1 0) (T.1 1) (T.1 2) f g)) : T'.2 = T.2 + cB (fun g => decide (T.1 3 g < 0) && q g) (f + 1) := by
  have hle := k.2.1
  have e1 : ms T' = cB (fun g => decide (T'.1 3 g < 0)) T.2 := by
    obtain ⟨j, hj⟩ : ∃ j, T'.2 = T.2 + j := ⟨T'.2 - T.2, by omega⟩
    unfold ms
    rw [hj]
    refine cB_tail j (fun g h1 h2 => decide_eq_false ?_)
    have := k.2.2.2.2.1 g h1 (by omega)
    omega
  have e2 : ms T = cB (fun g => decide (T.1 3 g < 0) && decide (0 ≤ T'.1 3 g)) T.2 + cB (fun g => decide (T.1 3 g < 0) && !decide (0 ≤ T'.1 3 g)) T.2 := cB_sp _ _ _
  have e3 : cB (fun g => decide (T.1 3 g < 0) && !decide (0 ≤ T'.1 3 g)) T.2 = cB (fun g => decide (T'.1 3 g < 0)) T.2 := by
    refine cB_c (fun g hg => ?_)
    by_cases z : 0 ≤ T'.1 3 g
    · rw [decide_eq_true z, decide_eq_false (p := T'.1 3 g < 0) (by omega)]
      simp
    · rw [decide_eq_false z, decide_eq_true (p := T'.1 3 g < 0) (by omega)]
      have z2 : T.1 3 g < 0 := by
        by_cases y : 0 ≤ T.1 3 g
        · exact absurd ((b g hg).mpr (Or.inl y)) z
        · omega
      rw [decide_eq_true z2]
      rfl
  have e4 : cB (fun g => decide (T.1 3 g < 0) && decide (0 ≤ T'.1 3 g)) T.2 = cB (fun g => decide (T.1 3 g < 0) && q g) (f + 1) := by
    obtain ⟨j, hj⟩ : ∃ j, T.2 = f + 1 + j := ⟨T.2 - (f + 1), by omega⟩
    have hz : ∀ g, g < T.2 → T.1 3 g < 0 → (0 ≤ T'.1 3 g ↔ pt (T.1 0) (T.1 1) (T.1 2) f g) := fun g hg h0 => by
      rw [b g hg]
      exact ⟨fun z => by rcases z with z | z; omega; exact z, Or.inr⟩
    have t : cB (fun g => decide (T.1 3 g < 0) && decide (0 ≤ T'.1 3 g)) T.2 = cB (fun g => decide (T.1 3 g < 0) && decide (0 ≤ T'.1 3 g)) (f + 1) := by
      rw [hj]
      refine cB_tail j (fun g h1 h2 => ?_)
      by_cases z : T.1 3 g < 0
      · rw [decide_eq_false (p := 0 ≤ T'.1 3 g), Bool.and_false]
        intro y
        have := pt_le hw hf ((hz g (by omega) z).mp y)
        omega
      · rw [decide_eq_false z, Bool.false_and]
    rw [t]
    refine cB_c (fun g hg => ?_)
    by_cases z : T.1 3 g < 0
    · rw [decide_eq_true z, Bool.true_and, Bool.true_and]
      by_cases y : q g = true
      · rw [y]
        exact decide_eq_true ((hz g (by omega) z).mpr ((hq g (by omega)).mp y))
      · rw [Bool.eq_false_iff.mpr y]
        exact decide_eq_false (fun x => y ((hq g (by omega)).mpr ((hz g (by omega) z).mp x)))
    · rw [decide_eq_false z, Bool.false_and, Bool.false_and]
  have := k.2.2.2.2.2
  omega
