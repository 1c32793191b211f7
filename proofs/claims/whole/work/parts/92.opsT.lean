/-! Calls that may throw: atom, pair, dual. -/
/-- making a formula, or finding it -/
def fmk (T : fT) (k l r x : Int) (T' : fT) : Prop := (fm_F (T.1 0) (T.1 1) (T.1 2) T.2 k l r x ∧ 0 ≤ x ∧ T' = T) ∨ (fm_F (T.1 0) (T.1 1) (T.1 2) T.2 k l r (-1) ∧ T.2 < 80 ∧ x = (T.2 : Int) ∧ ∃ y, dx_is (T.1 0) (T.1 1) (T.1 2) T.2 (T.1 3) k l r y ∧ T' = fT_add T k l r y)
def fmk_s (T : fT) (k l r : Int) : Prop := (k = 0 ∧ (0 ≤ l ∧ l < 8) ∧ (r = 0 ∨ r = 1)) ∨ ((k = 1 ∨ k = 2) ∧ (0 ≤ l ∧ l < (T.2 : Int)) ∧ (0 ≤ r ∧ r < (T.2 : Int)))
theorem fmk_new {T : fT} {k l r : Int} (h : fmk_s T k l r) (f : fm_F (T.1 0) (T.1 1) (T.1 2) T.2 k l r (-1)) : tb_new (T.1 0) (T.1 1) (T.1 2) T.2 k l r := by
  refine ⟨h, ?_⟩
  rcases f with ⟨-, f⟩ | ⟨j, -, f, -⟩
  · exact f
  · omega
theorem fg_add {T : fT} {k l r y : Int} (hT : fT_ok T) (hs : tb_new (T.1 0) (T.1 1) (T.1 2) T.2 k l r) (hy : dx_is (T.1 0) (T.1 1) (T.1 2) T.2 (T.1 3) k l r y) : fg T (fT_add T k l r y) := by
  have hyb : -1 ≤ y ∧ y < (T.2 : Int) := by
    by_cases hk : k = 0
    · exact fm_F_b (hy.1 hk)
    · obtain ⟨h1, h2⟩ := hy.2 hk
      by_cases z : T.1 3 l.toNat < 0 ∨ T.1 3 r.toNat < 0
      · have := h1 z; omega
      · exact fm_F_b (h2 (by omega) (by omega))
  refine ⟨Nat.le_succ _, fun a g ha hg => ?_, fun g hg h0 => ?_⟩
  · match a with
    | 0 => exact sn_up_ne _ (by omega)
    | 1 => exact sn_up_ne _ (by omega)
    | 2 => exact sn_up_ne _ (by omega)
    | 3 => exact absurd rfl ha
    | 4 => exact sn_up_ne _ (by omega)
    | _ + 5 => rfl
  · show dx_d (T.1 3) T.2 y g = T.1 3 g
    by_cases z : (g : Int) = y
    · have := (dx_none hT.1 hT.2.2.1 hT.2.2.2.1 hs hy (by omega)).2.1
      rw [show y.toNat = g by omega] at this
      omega
    · exact dx_d_o hyb.1 (by omega) z
theorem fmk_ok {T T' : fT} {k l r x : Int} (hT : fT_ok T) (h80 : T.2 ≤ 80) (hs : fmk_s T k l r) (h : fmk T k l r x T') : (fT_ok T' ∧ T'.2 ≤ 80) ∧ fg T T' ∧ (0 ≤ x ∧ x < (T'.2 : Int)) ∧ T'.1 0 x.toNat = k ∧ T'.1 1 x.toNat = l ∧ T'.1 2 x.toNat = r := by
  rcases h with ⟨hf, h0, rfl⟩ | ⟨hf, h1, rfl, y, hy, rfl⟩
  · rcases hf with ⟨z, -⟩ | ⟨j, hj, rfl, hm⟩
    · omega
    · exact ⟨⟨hT, h80⟩, fg_rf T', by omega, hm.1, hm.2.1, hm.2.2⟩
  · have hn := fmk_new hs hf
    refine ⟨⟨fT_add_ok hT hn hy, h1⟩, fg_add hT hn hy, ?_, ?_, ?_, ?_⟩
    · show 0 ≤ (T.2 : Int) ∧ (T.2 : Int) < ((T.2 + 1 : Nat) : Int)
      omega
    · exact sn_up_at _ _ _
    · exact sn_up_at _ _ _
    · exact sn_up_at _ _ _
theorem mt_F {T : fT} {σ : sn_M} (hm : mt_v T σ) {k l r x : Int} (h : fm_F (σ.1 41 0) (σ.1 42 0) (σ.1 43 0) (σ.1 40 0 1).toNat k l r x) : fm_F (T.1 0) (T.1 1) (T.1 2) T.2 k l r x := by
  rw [hm.2] at h
  exact fm_F_c (fun g hg => ⟨(hm.1 g hg).1.symm, (hm.1 g hg).2.1.symm, (hm.1 g hg).2.2.symm⟩) h
/-- the end of a call that made formulas -/
theorem in_up {LS : fT → sn_M → Prop} (hF : in_F LS) {T T' : fT} {S0 S0' S1 S1' : sT} {σ σ2 : sn_M} (h : in_v LS T S0 S0' S1 S1' σ) (f : ∀ a b c, ¬ (1 ≤ a ∧ a ≤ 8) → ¬ (40 ≤ a ∧ a ≤ 45) → σ2.1 a b c = σ.1 a b c) (v : fo_v T' σ2) (m : mt_v T' σ2) (k : fT_ok T' ∧ T'.2 ≤ 80) (g : fg T T') : in_v LS T' S0 S0' S1 S1' σ2 := by
  obtain ⟨⟨-, -, h3, -⟩, h5, h6, h7⟩ := h
  have f' : sn_fr (fun a _ _ => (1 ≤ a ∧ a ≤ 8) ∨ (40 ≤ a ∧ a ≤ 45)) (σ.1, σ2.2) σ2 := ⟨rfl, fun a b c hn => f a b c (fun z => hn (Or.inl z)) (fun z => hn (Or.inr z))⟩
  have key : ∀ {S S' : sT} {i : Nat}, in_s T S S' i σ → in_s T' S S' i σ2 := by
    intro S S' i q
    have q' : in_s T S S' i (σ.1, σ2.2) := q
    have q2 := in_s_fr q' f' (fun a c g1 g2 z => by omega) (fun a c g z => by have := cp_46 g; omega)
    exact ⟨q2.1, q2.2.1, q2.2.2.1, s_ok_T q2.2.2.2 g.1 g.2.1 g.2.2⟩
  exact ⟨⟨v, m, k.1, k.2⟩, key h5, key h6, hF.2 T T' σ2 (hF.1 T σ σ2 h7 (fun a i j g1 g2 => f a i j (by omega) (by omega))) h3 g⟩
theorem in_v2 {LS : fT → sn_M → Prop} (hF : in_F LS) {T : fT} {S0 S0' S1 S1' : sT} {σ σ2 : sn_M} (h : in_v LS T S0 S0' S1 S1' σ) (e : σ2.1 = σ.1) : in_v LS T S0 S0' S1 S1' σ2 := by
  obtain ⟨a, b⟩ := σ2
  obtain ⟨c, d⟩ := σ
  obtain rfl : a = c := e
  obtain ⟨⟨h1, h2, h3, h4⟩, h5, h6, h7⟩ := h
  exact ⟨⟨h1, h2, h3, h4⟩, h5, h6, hF.1 T _ _ h7 (fun _ _ _ _ _ => rfl)⟩
theorem lw_ab1 (xs : Nat → Int32) (i : Nat) : ∃ l b : Int, (b = 0 ∨ b = 1) ∧ lw_ab 1 xs i = [.inl l, .inl b] := by
  refine ⟨(xs (i + 1 + 0)).toInt, if xs (i + 1 + 1) = 0 then 0 else 1, ?_, rfl⟩
  split
  · exact Or.inl rfl
  · exact Or.inr rfl
theorem lw_ab2 (xs : Nat → Int32) (i : Nat) : ∃ l r b : Int, (b = 0 ∨ b = 1) ∧ lw_ab 2 xs i = [.inl l, .inl r, .inl b] := by
  refine ⟨(xs (i + 1 + 0)).toInt, (xs (i + 1 + 1)).toInt, if xs (i + 1 + 2) = 0 then 0 else 1, ?_, rfl⟩
  split
  · exact Or.inl rfl
  · exact Or.inr rfl
theorem lw_a1 (xs : Nat → Int32) (i : Nat) : ∃ l : Int, lw_a 1 xs i = [.inl l] := ⟨(xs (i + 1 + 0)).toInt, rfl⟩
theorem lw_a2 (xs : Nat → Int32) (i : Nat) : ∃ l r : Int, lw_a 2 xs i = [.inl l, .inl r] := ⟨(xs (i + 1 + 0)).toInt, (xs (i + 1 + 1)).toInt, rfl⟩
theorem md_mk {T T' : fT} {σ : sn_M} (hm : mt_v T σ) (hT : fT_ok T) (h80 : T.2 ≤ 80) {k l r x : Int} (h : fmk T k l r x T') : (0 ≤ σ.1 40 0 1 ∧ σ.1 40 0 1 ≤ 80) ∧ ∀ y, fm_F (σ.1 41 0) (σ.1 42 0) (σ.1 43 0) (σ.1 40 0 1).toNat k l r y → (0 ≤ y → y = x ∧ mt_v T' σ ∧ mt_f σ σ) ∧ (y = -1 → σ.1 40 0 1 = 80 → False) ∧ (y = -1 → σ.1 40 0 1 < 80 → σ.1 40 0 1 = x ∧ mt_v T' (md_add σ k l r) ∧ mt_f σ (md_add σ k l r)) := by
  refine ⟨by rw [hm.2]; omega, fun y hy => ?_⟩
  have hy := mt_F hm hy
  rcases h with ⟨hf, h0, rfl⟩ | ⟨hf, h1, rfl, d, hd, rfl⟩
  · obtain rfl := fm_F_u hT.2.1 hf hy
    exact ⟨fun _ => ⟨rfl, hm, mt_f_rf σ⟩, fun z => by omega, fun z => by omega⟩
  · obtain rfl := fm_F_u hT.2.1 hf hy
    exact ⟨fun z => by omega, fun _ z => by rw [hm.2] at z; omega, fun _ _ => ⟨hm.2, mt_add hm k l r d, (mt_add_f σ k l r).1⟩⟩
theorem md_mk0 {T : fT} {σ : sn_M} (hm : mt_v T σ) (hT : fT_ok T) (h80 : T.2 = 80) {k l r : Int} (h : fm_F (T.1 0) (T.1 1) (T.1 2) T.2 k l r (-1)) : (0 ≤ σ.1 40 0 1 ∧ σ.1 40 0 1 ≤ 80) ∧ ∀ y, fm_F (σ.1 41 0) (σ.1 42 0) (σ.1 43 0) (σ.1 40 0 1).toNat k l r y → y = -1 ∧ ¬ σ.1 40 0 1 < 80 := by
  refine ⟨by rw [hm.2]; omega, fun y hy => ?_⟩
  have hy := mt_F hm hy
  exact ⟨fm_F_u hT.2.1 hy h, by rw [hm.2]; omega⟩
/-- what is owed after the reference's call -/
def lw_q (Inv : Nat → sn_M → Prop) (n : Nat) (k : Int) : Option sn_V → sn_M → Prop := fun r σ => ∃ v, r = some (.inl v) ∧ σ.1 40 0 0 = k ∧ (k = 0 → σ.2 65 0 0 = (Int32.ofInt v).toInt64) ∧ Inv (n + 1) σ
theorem lw_q1 {Inv : Nat → sn_M → Prop} {n : Nat} {k : Int} (v : Int) {σ : sn_M} (h0 : σ.1 40 0 0 = k) (hk : ¬ k = 0) (h : Inv (n + 1) σ) : lw_q Inv n k (some (.inl v)) σ := ⟨v, rfl, h0, fun z => absurd z hk, h⟩
theorem mt_c0 {T : fT} {σ : sn_M} (h : mt_v T σ) (v : Int) : mt_v T (sn_u σ.1 40 0 0 v, σ.2) := h
theorem fo_c0 {T : fT} {σ : sn_M} (h : fo_v T σ) (v : Int) : fo_v T (sn_u σ.1 40 0 0 v, σ.2) := h
/-- the frame of making formulas, in both -/
theorem tm_f {σ σ1 σ2 σ3 : sn_M} {s2 : Nat → Nat → Nat → Int64} {v w : Int} (f1 : fo_f σ σ1) (f2 : mt_f (sn_u σ1.1 40 0 0 v, s2) σ2) (e : σ3 = (sn_u σ2.1 40 0 0 w, σ2.2)) : ∀ a b c, ¬ (1 ≤ a ∧ a ≤ 8) → ¬ (40 ≤ a ∧ a ≤ 45) → σ3.1 a b c = σ.1 a b c := by
  intro a b c h1 h2
  subst e
  show sn_u σ2.1 40 0 0 w a b c = _
  rw [sn_u_n (fun z => h2 (by omega)), f2.2 a b c (fun z => h2 (by omega))]
  show sn_u σ1.1 40 0 0 v a b c = _
  rw [sn_u_n (fun z => h2 (by omega))]
  exact f1.2 a b c (fun z => h1 (by omega))
theorem op_atom {LS : fT → sn_M → Prop} (hF : in_F LS) : lw_O (in_I LS) 0 := by
  refine ⟨_, _, _, _, by decide, by decide, tc_SN_atom, ct_MD_atom, fun n σ xs i hI hn hR => ?_⟩
  obtain ⟨T, S0, S0', S1, S1', hv⟩ := hI
  obtain ⟨hfo, hmt, hT, h80⟩ := id hv.1
  obtain ⟨l, b, hb, has⟩ := lw_ab1 xs i
  rw [has]
  refine fun G hG => ?_
  have bad : (l < 0 ∨ 8 ≤ l) → lw_po (in_I LS) sp_MD_atom n [.inl l, .inl b] (some (.inl 1)) σ := by
    intro h
    refine ⟨1, rfl, fun _ G2 => ?_⟩
    have hc := in_c hF hv 1
    have g : lw_q (in_I LS) n 1 (some (.inl 0)) (sn_u σ.1 40 0 0 1, σ.2) := lw_q1 0 rfl (by decide) ⟨T, S0, S0', S1, S1', hc⟩
    refine And.intro (fun _ => ?_) (fun z => And.intro (fun y => ?_) (fun _ => ?_))
    · exact And.intro (fun y => absurd (show (1 : Int) ≤ 0 from y) (by decide)) (fun _ => g)
    · have z : 0 ≤ l := z
      have y : l < 8 := y
      omega
    · exact And.intro (fun y => absurd (show (1 : Int) ≤ 0 from y) (by decide)) (fun _ => g)
  refine And.intro (fun z => hG 10 1 _ σ rfl (bad (Or.inl z))) (fun z => And.intro (fun y => ?_) (fun y => hG 10 1 _ σ rfl (bad (Or.inr y))))
  have z : 0 ≤ l := z
  have y : l < 8 := y
  have hs : fmk_s T 0 l b := Or.inl ⟨rfl, ⟨z, y⟩, hb⟩
  have full : T.2 = 80 → fm_F (T.1 0) (T.1 1) (T.1 2) T.2 0 l b (-1) → lw_po (in_I LS) sp_MD_atom n [.inl l, .inl b] (some (.inl 2)) σ := by
    intro h1 h2
    refine ⟨2, rfl, fun _ G2 => ?_⟩
    have hc0 := in_c hF hv 0
    have hc := in_c hF hc0 2
    have g : lw_q (in_I LS) n 2 (some (.inl 0)) (sn_u (sn_u σ.1 40 0 0 0) 40 0 0 2, σ.2) := lw_q1 0 rfl (by decide) ⟨T, S0, S0', S1, S1', hc⟩
    obtain ⟨m1, m2⟩ := md_mk0 (mt_c0 hmt 0) hT h1 h2
    refine And.intro (fun y' => absurd (show l < 0 from y') (by omega)) (fun _ => And.intro (fun _ => ?_) (fun y' => absurd (show 8 ≤ l from y') (by omega)))
    refine And.intro (fun _ => ?_) (fun w => absurd (show (0 : Int) < 0 from w) (by decide))
    rcases hb with rfl | rfl
    · refine And.intro (fun _ => And.intro rfl (And.intro m1 (fun x hx => ?_))) (fun w => absurd rfl w)
      obtain ⟨rfl, e2⟩ := m2 x hx
      refine And.intro (fun w => absurd w (by decide)) (And.intro (fun _ _ => ?_) (fun _ w => absurd w e2))
      exact And.intro (fun _ => And.intro (fun w => absurd (show (2 : Int) ≤ 0 from w) (by decide)) (fun _ => g)) (fun w => absurd w (by decide))
    · refine And.intro (fun w => absurd w (by decide)) (fun _ => And.intro rfl (And.intro m1 (fun x hx => ?_)))
      obtain ⟨rfl, e2⟩ := m2 x hx
      refine And.intro (fun w => absurd w (by decide)) (And.intro (fun _ _ => ?_) (fun _ w => absurd w e2))
      exact And.intro (fun _ => And.intro (fun w => absurd (show (2 : Int) ≤ 0 from w) (by decide)) (fun _ => g)) (fun w => absurd w (by decide))
  have good : ∀ (x : Int) (T' : fT) (σ1 : sn_M), fmk T 0 l b x T' → fo_v T' σ1 → fo_f σ σ1 → lw_po (in_I LS) sp_MD_atom n [.inl l, .inl b] (some (.inl 0)) (σ1.1, sn_u σ1.2 65 0 0 (Int32.ofInt x).toInt64) := by
    intro x T' σ1 hk hv1 hf1
    refine ⟨0, rfl, fun _ G2 => ?_⟩
    obtain ⟨k1, k2, k3, -⟩ := fmk_ok hT h80 hs hk
    have hm1 : mt_v T σ1 := mt_v_fr hmt hf1 (fun a c g1 g2 q => by omega) (fun q => by omega)
    have hm1 : mt_v T (σ1.1, sn_u σ1.2 65 0 0 (Int32.ofInt x).toInt64) := hm1
    obtain ⟨m1, m2⟩ := md_mk (mt_c0 hm1 0) hT h80 hk
    refine And.intro (fun y' => absurd (show l < 0 from y') (by omega)) (fun _ => And.intro (fun _ => ?_) (fun y' => absurd (show 8 ≤ l from y') (by omega)))
    refine And.intro (fun _ => ?_) (fun w => absurd (show (0 : Int) < 0 from w) (by decide))
    have g : ∀ σ2, mt_v T' σ2 → mt_f (sn_u σ1.1 40 0 0 0, sn_u σ1.2 65 0 0 (Int32.ofInt x).toInt64) σ2 → lw_q (in_I LS) n 0 (some (.inl x)) (sn_u σ2.1 40 0 0 0, σ2.2) := by
      intro σ2 hm2 hf2
      refine ⟨x, rfl, rfl, fun _ => ?_, T', S0, S0', S1, S1', in_up hF hv (tm_f hf1 hf2 rfl) (fo_c0 ?_ 0) (mt_c0 hm2 0) k1 k2⟩
      · show σ2.2 65 0 0 = _
        rw [hf2.1]
        show sn_u σ1.2 65 0 0 (Int32.ofInt x).toInt64 65 0 0 = _
        exact sn_u_s
      · exact fo_v_fr (show fo_v T' (sn_u σ1.1 40 0 0 0, sn_u σ1.2 65 0 0 (Int32.ofInt x).toInt64) from hv1) hf2 (fun a c g1 g2 q => by omega)
    have k30 := k3.1
    rcases hb with rfl | rfl
    · refine And.intro (fun _ => And.intro rfl (And.intro m1 (fun x' hx => ?_))) (fun w => absurd rfl w)
      obtain ⟨n1, n2, n3⟩ := m2 x' hx
      refine And.intro (fun w => ?_) (And.intro (fun w1 w2 => (n2 w1 w2).elim) (fun w1 w2 => ?_))
      · obtain ⟨rfl, q1, q2⟩ := n1 w
        exact And.intro (fun w => absurd (show x' < 0 from w) (by omega)) (fun _ => And.intro (fun _ => g _ q1 q2) (fun w => absurd (show (0 : Int) < 0 from w) (by decide)))
      · obtain ⟨e, q1, q2⟩ := n3 w1 w2
        rw [e]
        exact And.intro (fun w => absurd w (Int.not_lt.mpr k30)) (fun _ => And.intro (fun _ => g _ q1 q2) (fun w => absurd (show (0 : Int) < 0 from w) (by decide)))
    · refine And.intro (fun w => absurd w (by decide)) (fun _ => And.intro rfl (And.intro m1 (fun x' hx => ?_)))
      obtain ⟨n1, n2, n3⟩ := m2 x' hx
      refine And.intro (fun w => ?_) (And.intro (fun w1 w2 => (n2 w1 w2).elim) (fun w1 w2 => ?_))
      · obtain ⟨rfl, q1, q2⟩ := n1 w
        exact And.intro (fun w => absurd (show x' < 0 from w) (by omega)) (fun _ => And.intro (fun _ => g _ q1 q2) (fun w => absurd (show (0 : Int) < 0 from w) (by decide)))
      · obtain ⟨e, q1, q2⟩ := n3 w1 w2
        rw [e]
        exact And.intro (fun w => absurd w (Int.not_lt.mpr k30)) (fun _ => And.intro (fun _ => g _ q1 q2) (fun w => absurd (show (0 : Int) < 0 from w) (by decide)))
  have cls : (T.2 < 80 ∨ ¬ fm_F (T.1 0) (T.1 1) (T.1 2) T.2 0 l b (-1)) → ∀ x, fm_F (T.1 0) (T.1 1) (T.1 2) T.2 0 l b x → (0 ≤ x → fmk T 0 l b x T) ∧ (x = -1 → T.2 < 80 ∧ tb_new (T.1 0) (T.1 1) (T.1 2) T.2 0 l b ∧ ∀ y, dx_is (T.1 0) (T.1 1) (T.1 2) T.2 (T.1 3) 0 l b y → fmk T 0 l b (T.2 : Int) (fT_add T 0 l b y)) := by
    intro hc x hx
    refine ⟨fun h0 => Or.inl ⟨hx, h0, rfl⟩, fun z => ?_⟩
    subst z
    rcases hc with hc | hc
    · exact ⟨hc, fmk_new hs hx, fun y hy => Or.inr ⟨hx, hc, rfl, y, hy, rfl⟩⟩
    · exact absurd hx hc
  rcases hb with rfl | rfl
  · refine And.intro (fun _ => ?_) (fun w => absurd rfl w)
    refine And.intro rfl ⟨T, hfo, h80, fun hc => ?_, fun h1 x hx => And.intro (fun hx1 => ?_) (fun hx1 => ?_)⟩
    · refine And.intro (fun w => absurd w (by decide)) (fun _ => And.intro rfl ⟨T, hfo, hT, h80, fun x hx => And.intro (fun h0 => ?_) (fun z => ?_)⟩)
      · exact ⟨x, rfl, good x T σ ((cls (Or.inl hc) x hx).1 h0) hfo ⟨rfl, fun _ _ _ _ => rfl⟩⟩
      · obtain ⟨c1, c2, c3⟩ := (cls (Or.inl hc) x hx).2 z
        exact ⟨c1, c2, fun y σ1 hy hv1 hf1 => ⟨(T.2 : Int), rfl, good _ _ σ1 (c3 y hy) hv1 hf1⟩⟩
    · refine And.intro (fun _ => hG 43 2 _ σ rfl (full h1 ?_)) (fun w => absurd rfl w)
      rw [← hx1]
      exact hx
    · refine And.intro (fun w => absurd w (by decide)) (fun _ => And.intro rfl ⟨T, hfo, hT, h80, fun x' hx' => And.intro (fun h0 => ?_) (fun z => ?_)⟩)
      · exact ⟨x', rfl, good x' T σ ((cls (Or.inr (fun y => hx1 (fm_F_u hT.2.1 hx y))) x' hx').1 h0) hfo ⟨rfl, fun _ _ _ _ => rfl⟩⟩
      · exact absurd ((fm_F_u hT.2.1 hx hx').trans z) hx1
  · refine And.intro (fun w => absurd w (by decide)) (fun _ => ?_)
    refine And.intro rfl ⟨T, hfo, h80, fun hc => ?_, fun h1 x hx => And.intro (fun hx1 => ?_) (fun hx1 => ?_)⟩
    · refine And.intro (fun w => absurd w (by decide)) (fun _ => And.intro rfl ⟨T, hfo, hT, h80, fun x hx => And.intro (fun h0 => ?_) (fun z => ?_)⟩)
      · exact ⟨x, rfl, good x T σ ((cls (Or.inl hc) x hx).1 h0) hfo ⟨rfl, fun _ _ _ _ => rfl⟩⟩
      · obtain ⟨c1, c2, c3⟩ := (cls (Or.inl hc) x hx).2 z
        exact ⟨c1, c2, fun y σ1 hy hv1 hf1 => ⟨(T.2 : Int), rfl, good _ _ σ1 (c3 y hy) hv1 hf1⟩⟩
    · refine And.intro (fun _ => hG 43 2 _ σ rfl (full h1 ?_)) (fun w => absurd rfl w)
      rw [← hx1]
      exact hx
    · refine And.intro (fun w => absurd w (by decide)) (fun _ => And.intro rfl ⟨T, hfo, hT, h80, fun x' hx' => And.intro (fun h0 => ?_) (fun z => ?_)⟩)
      · exact ⟨x', rfl, good x' T σ ((cls (Or.inr (fun y => hx1 (fm_F_u hT.2.1 hx y))) x' hx').1 h0) hfo ⟨rfl, fun _ _ _ _ => rfl⟩⟩
      · exact absurd ((fm_F_u hT.2.1 hx hx').trans z) hx1
