/-! pair, dual. -/
def fT_in (T : fT) (f : Int) : Prop := 0 ≤ f ∧ f < (T.2 : Int)
theorem fo_has {T : fT} {σ : sn_M} (h : fo_v T σ) (l : Int) (po : Option sn_V → sn_M → Prop) (h1 : fT_in T l → po (some (.inl 1)) σ) (h0 : ¬ fT_in T l → po (some (.inl 0)) σ) : sp_FO_has [.inr (.inr (1, 0)), .inl l] σ po := by
  have f5 := h.2
  refine fun G => And.intro (fun z => And.intro (Or.inl rfl) (h0 (fun y => ?_))) (fun z => And.intro (fun y => And.intro (Or.inr rfl) (h1 ⟨z, ?_⟩)) (fun y => And.intro (Or.inl rfl) (h0 (fun w => ?_))))
  · have z : l < 0 := z
    have := y.1
    omega
  · have y : l < σ.1 1 0 7 := y
    omega
  · have y : σ.1 1 0 7 ≤ l := y
    have := w.2
    omega
theorem md_isF {T : fT} {σ : sn_M} (h : mt_v T σ) (l : Int) (po : Option sn_V → sn_M → Prop) (h1 : fT_in T l → po (some (.inl 1)) σ) (h0 : ¬ fT_in T l → po (some (.inl 0)) σ) : sp_MD_isFormula [.inr (.inr (40, 0)), .inl l] σ po := by
  have f5 := h.2
  refine fun G => And.intro (fun z => And.intro (Or.inl rfl) (h0 (fun y => ?_))) (fun z => And.intro (fun y => And.intro (Or.inr rfl) (h1 ⟨z, ?_⟩)) (fun y => And.intro (Or.inl rfl) (h0 (fun w => ?_))))
  · have z : l < 0 := z
    have := y.1
    omega
  · have y : l < σ.1 40 0 1 := y
    omega
  · have y : σ.1 40 0 1 ≤ l := y
    have := w.2
    omega
theorem fmk_cls {T : fT} {k l r : Int} (hs : fmk_s T k l r) (hc : T.2 < 80 ∨ ¬ fm_F (T.1 0) (T.1 1) (T.1 2) T.2 k l r (-1)) : ∀ x, fm_F (T.1 0) (T.1 1) (T.1 2) T.2 k l r x → (0 ≤ x → fmk T k l r x T) ∧ (x = -1 → T.2 < 80 ∧ tb_new (T.1 0) (T.1 1) (T.1 2) T.2 k l r ∧ ∀ y, dx_is (T.1 0) (T.1 1) (T.1 2) T.2 (T.1 3) k l r y → fmk T k l r (T.2 : Int) (fT_add T k l r y)) := by
  intro x hx
  refine ⟨fun h0 => Or.inl ⟨hx, h0, rfl⟩, fun z => ?_⟩
  subst z
  rcases hc with hc | hc
  · exact ⟨hc, fmk_new hs hx, fun y hy => Or.inr ⟨hx, hc, rfl, y, hy, rfl⟩⟩
  · exact absurd hx hc
theorem op_pair {LS : fT → sn_M → Prop} (hF : in_F LS) : lw_O (in_I LS) 1 := by
  refine ⟨_, _, _, _, by decide, by decide, tc_SN_pair, ct_MD_pair, fun n σ xs i hI hn hR => ?_⟩
  obtain ⟨T, S0, S0', S1, S1', hv⟩ := hI
  obtain ⟨hfo, hmt, hT, h80⟩ := id hv.1
  obtain ⟨l, r, b, hb, has⟩ := lw_ab2 xs i
  rw [has]
  refine fun G hG => ?_
  have bad : ¬ (fT_in T l ∧ fT_in T r) → lw_po (in_I LS) sp_MD_pair n [.inl l, .inl r, .inl b] (some (.inl 1)) σ := by
    intro h
    refine ⟨1, rfl, fun _ G2 => ?_⟩
    have hc := in_c hF hv 1
    have g : lw_q (in_I LS) n 1 (some (.inl 0)) (sn_u σ.1 40 0 0 1, σ.2) := lw_q1 0 rfl (by decide) ⟨T, S0, S0', S1, S1', hc⟩
    refine md_isF hmt l _ (fun h1 => ?_) (fun h1 => ?_)
    · refine And.intro (fun w => absurd w (by decide)) (fun _ => ?_)
      refine md_isF hmt r _ (fun h2 => absurd ⟨h1, h2⟩ h) (fun h2 => ?_)
      refine And.intro (fun _ => ?_) (fun w => absurd rfl w)
      exact And.intro (fun y => absurd (show (1 : Int) ≤ 0 from y) (by decide)) (fun _ => g)
    · refine And.intro (fun _ => ?_) (fun w => absurd rfl w)
      exact And.intro (fun y => absurd (show (1 : Int) ≤ 0 from y) (by decide)) (fun _ => g)
  refine fo_has hfo l _ (fun hl => ?_) (fun hl => And.intro (fun _ => hG 22 1 _ σ rfl (bad (fun z => hl z.1))) (fun w => absurd rfl w))
  refine And.intro (fun w => absurd w (by decide)) (fun _ => ?_)
  refine fo_has hfo r _ (fun hr => ?_) (fun hr => And.intro (fun _ => hG 22 1 _ σ rfl (bad (fun z => hr z.2))) (fun w => absurd rfl w))
  refine And.intro (fun w => absurd w (by decide)) (fun _ => ?_)
  have key : ∀ k : Int, (b = 0 ∧ k = 2) ∨ (b = 1 ∧ k = 1) →
      fmk_s T k l r ∧ (T.2 = 80 → fm_F (T.1 0) (T.1 1) (T.1 2) T.2 k l r (-1) → lw_po (in_I LS) sp_MD_pair n [.inl l, .inl r, .inl b] (some (.inl 2)) σ) ∧
      ∀ (x : Int) (T' : fT) (σ1 : sn_M), fmk T k l r x T' → fo_v T' σ1 → fo_f σ σ1 → lw_po (in_I LS) sp_MD_pair n [.inl l, .inl r, .inl b] (some (.inl 0)) (σ1.1, sn_u σ1.2 65 0 0 (Int32.ofInt x).toInt64) := by
    intro k hk
    have hs : fmk_s T k l r := Or.inr ⟨by omega, hl, hr⟩
    refine ⟨hs, fun h1 h2 => ?_, fun x T' σ1 hm hv1 hf1 => ?_⟩
    · refine ⟨2, rfl, fun _ G2 => ?_⟩
      have hc0 := in_c hF hv 0
      have hc := in_c hF hc0 2
      have g : lw_q (in_I LS) n 2 (some (.inl 0)) (sn_u (sn_u σ.1 40 0 0 0) 40 0 0 2, σ.2) := lw_q1 0 rfl (by decide) ⟨T, S0, S0', S1, S1', hc⟩
      obtain ⟨m1, m2⟩ := md_mk0 (mt_c0 hmt 0) hT h1 h2
      refine md_isF hmt l _ (fun _ => ?_) (fun z => absurd hl z)
      refine And.intro (fun w => absurd w (by decide)) (fun _ => ?_)
      refine md_isF hmt r _ (fun _ => ?_) (fun z => absurd hr z)
      refine And.intro (fun w => absurd w (by decide)) (fun _ => ?_)
      refine And.intro (fun _ => ?_) (fun w => absurd (show (0 : Int) < 0 from w) (by decide))
      rcases hk with ⟨rfl, rfl⟩ | ⟨rfl, rfl⟩
      · refine And.intro (fun _ => And.intro rfl (And.intro m1 (fun x hx => ?_))) (fun w => absurd rfl w)
        obtain ⟨rfl, e2⟩ := m2 x hx
        refine And.intro (fun w => absurd w (by decide)) (And.intro (fun _ _ => ?_) (fun _ w => absurd w e2))
        exact And.intro (fun _ => And.intro (fun w => absurd (show (2 : Int) ≤ 0 from w) (by decide)) (fun _ => g)) (fun w => absurd w (by decide))
      · refine And.intro (fun w => absurd w (by decide)) (fun _ => And.intro rfl (And.intro m1 (fun x hx => ?_)))
        obtain ⟨rfl, e2⟩ := m2 x hx
        refine And.intro (fun w => absurd w (by decide)) (And.intro (fun _ _ => ?_) (fun _ w => absurd w e2))
        exact And.intro (fun _ => And.intro (fun w => absurd (show (2 : Int) ≤ 0 from w) (by decide)) (fun _ => g)) (fun w => absurd w (by decide))
    · refine ⟨0, rfl, fun _ G2 => ?_⟩
      obtain ⟨k1, k2, k3, -⟩ := fmk_ok hT h80 hs hm
      have hm1 : mt_v T σ1 := mt_v_fr hmt hf1 (fun a c g1 g2 q => by omega) (fun q => by omega)
      have hm1 : mt_v T (σ1.1, sn_u σ1.2 65 0 0 (Int32.ofInt x).toInt64) := hm1
      obtain ⟨m1, m2⟩ := md_mk (mt_c0 hm1 0) hT h80 hm
      refine md_isF hm1 l _ (fun _ => ?_) (fun z => absurd hl z)
      refine And.intro (fun w => absurd w (by decide)) (fun _ => ?_)
      refine md_isF hm1 r _ (fun _ => ?_) (fun z => absurd hr z)
      refine And.intro (fun w => absurd w (by decide)) (fun _ => ?_)
      refine And.intro (fun _ => ?_) (fun w => absurd (show (0 : Int) < 0 from w) (by decide))
      have g : ∀ σ2, mt_v T' σ2 → mt_f (sn_u σ1.1 40 0 0 0, sn_u σ1.2 65 0 0 (Int32.ofInt x).toInt64) σ2 → lw_q (in_I LS) n 0 (some (.inl x)) (sn_u σ2.1 40 0 0 0, σ2.2) := by
        intro σ2 hm2 hf2
        refine ⟨x, rfl, rfl, fun _ => ?_, T', S0, S0', S1, S1', in_up hF hv (tm_f hf1 hf2 rfl) (fo_c0 ?_ 0) (mt_c0 hm2 0) k1 k2⟩
        · show σ2.2 65 0 0 = _
          rw [hf2.1]
          show sn_u σ1.2 65 0 0 (Int32.ofInt x).toInt64 65 0 0 = _
          exact sn_u_s
        · exact fo_v_fr (show fo_v T' (sn_u σ1.1 40 0 0 0, sn_u σ1.2 65 0 0 (Int32.ofInt x).toInt64) from hv1) hf2 (fun a c g1 g2 q => by omega)
      have k30 := k3.1
      rcases hk with ⟨rfl, rfl⟩ | ⟨rfl, rfl⟩
      · refine And.intro (fun _ => And.intro rfl (And.intro m1 (fun x' hx => ?_))) (fun w => absurd rfl w)
        obtain ⟨n1, n2, n3⟩ := m2 x' hx
        refine And.intro (fun w => ?_) (And.intro (fun w1 w2 => (n2 w1 w2).elim) (fun w1 w2 => ?_))
        · obtain ⟨rfl, q1, q2⟩ := n1 w
          exact And.intro (fun w => absurd (show x' < 0 from w) (by omega)) (fun _ => And.intro (fun _ => g _ q1 q2) (fun w => absurd (show (0 : Int) < 0 from w) (by decide)))
        · obtain ⟨e, q1, q2⟩ := n3 w1 w2
          rw [e]
          exact And.intro (fun w => absurd w (Int.not_lt.mpr k30)) (fun _ => And.intro (fun _ => g _ q1 q2) (fun w => absurd (show (0 : Int) < 0 from w) (by decide)))
      · refine And.intro (fun w => absurd w (by decide)) (fun _ => And.intro rfl (And.intro m1 (fun x' hx => ?_)))
        obtain ⟨n1, n2, n3⟩ := m2 x' hx
        refine And.intro (fun w => ?_) (And.intro (fun w1 w2 => (n2 w1 w2).elim) (fun w1 w2 => ?_))
        · obtain ⟨rfl, q1, q2⟩ := n1 w
          exact And.intro (fun w => absurd (show x' < 0 from w) (by omega)) (fun _ => And.intro (fun _ => g _ q1 q2) (fun w => absurd (show (0 : Int) < 0 from w) (by decide)))
        · obtain ⟨e, q1, q2⟩ := n3 w1 w2
          rw [e]
          exact And.intro (fun w => absurd w (Int.not_lt.mpr k30)) (fun _ => And.intro (fun _ => g _ q1 q2) (fun w => absurd (show (0 : Int) < 0 from w) (by decide)))
  rcases hb with rfl | rfl
  · obtain ⟨hs, full, good⟩ := key 2 (Or.inl ⟨rfl, rfl⟩)
    refine And.intro (fun _ => ?_) (fun w => absurd rfl w)
    refine And.intro rfl ⟨T, hfo, h80, fun hc => ?_, fun h1 x hx => And.intro (fun hx1 => ?_) (fun hx1 => ?_)⟩
    · refine And.intro (fun w => absurd w (by decide)) (fun _ => And.intro rfl ⟨T, hfo, hT, h80, fun x hx => And.intro (fun h0 => ?_) (fun z => ?_)⟩)
      · exact ⟨x, rfl, good x T σ ((fmk_cls hs (Or.inl hc) x hx).1 h0) hfo ⟨rfl, fun _ _ _ _ => rfl⟩⟩
      · obtain ⟨c1, c2, c3⟩ := (fmk_cls hs (Or.inl hc) x hx).2 z
        exact ⟨c1, c2, fun y σ1 hy hv1 hf1 => ⟨(T.2 : Int), rfl, good _ _ σ1 (c3 y hy) hv1 hf1⟩⟩
    · refine And.intro (fun _ => hG 57 2 _ σ rfl (full h1 ?_)) (fun w => absurd rfl w)
      rw [← hx1]
      exact hx
    · refine And.intro (fun w => absurd w (by decide)) (fun _ => And.intro rfl ⟨T, hfo, hT, h80, fun x' hx' => And.intro (fun h0 => ?_) (fun z => ?_)⟩)
      · exact ⟨x', rfl, good x' T σ ((fmk_cls hs (Or.inr (fun y => hx1 (fm_F_u hT.2.1 hx y))) x' hx').1 h0) hfo ⟨rfl, fun _ _ _ _ => rfl⟩⟩
      · exact absurd ((fm_F_u hT.2.1 hx hx').trans z) hx1
  · obtain ⟨hs, full, good⟩ := key 1 (Or.inr ⟨rfl, rfl⟩)
    refine And.intro (fun w => absurd w (by decide)) (fun _ => ?_)
    refine And.intro rfl ⟨T, hfo, h80, fun hc => ?_, fun h1 x hx => And.intro (fun hx1 => ?_) (fun hx1 => ?_)⟩
    · refine And.intro (fun w => absurd w (by decide)) (fun _ => And.intro rfl ⟨T, hfo, hT, h80, fun x hx => And.intro (fun h0 => ?_) (fun z => ?_)⟩)
      · exact ⟨x, rfl, good x T σ ((fmk_cls hs (Or.inl hc) x hx).1 h0) hfo ⟨rfl, fun _ _ _ _ => rfl⟩⟩
      · obtain ⟨c1, c2, c3⟩ := (fmk_cls hs (Or.inl hc) x hx).2 z
        exact ⟨c1, c2, fun y σ1 hy hv1 hf1 => ⟨(T.2 : Int), rfl, good _ _ σ1 (c3 y hy) hv1 hf1⟩⟩
    · refine And.intro (fun _ => hG 57 2 _ σ rfl (full h1 ?_)) (fun w => absurd rfl w)
      rw [← hx1]
      exact hx
    · refine And.intro (fun w => absurd w (by decide)) (fun _ => And.intro rfl ⟨T, hfo, hT, h80, fun x' hx' => And.intro (fun h0 => ?_) (fun z => ?_)⟩)
      · exact ⟨x', rfl, good x' T σ ((fmk_cls hs (Or.inr (fun y => hx1 (fm_F_u hT.2.1 hx y))) x' hx').1 h0) hfo ⟨rfl, fun _ _ _ _ => rfl⟩⟩
      · exact absurd ((fm_F_u hT.2.1 hx hx').trans z) hx1
theorem dl_in {T T' : fT} {f : Nat} (hf : f < T.2) (k : dl_k T T') (b : dl_b T f T') : fg T T' ∧ (0 ≤ T'.1 3 f ∧ T'.1 3 f < (T'.2 : Int)) := by
  refine ⟨⟨k.2.1, k.2.2.1, k.2.2.2.1⟩, (b f hf).mpr (Or.inr (pt_rf _ _ _ f)), ?_⟩
  exact (dp_b (k.1.2.2.1 f (Nat.lt_of_lt_of_le hf k.2.1))).2
theorem tm_g {σ σ1 σ2 : sn_M} {s2 : Nat → Nat → Nat → Int64} {v : Int} (f1 : ∀ a b c, ¬ (1 ≤ a ∧ a ≤ 8) → σ1.1 a b c = σ.1 a b c) (f2 : mt_f (sn_u σ1.1 40 0 0 v, s2) σ2) : ∀ a b c, ¬ (1 ≤ a ∧ a ≤ 8) → ¬ (40 ≤ a ∧ a ≤ 45) → σ2.1 a b c = σ.1 a b c := by
  intro a b c h1 h2
  rw [f2.2 a b c (fun z => h2 (by omega))]
  show sn_u σ1.1 40 0 0 v a b c = _
  rw [sn_u_n (fun z => h2 (by omega))]
  exact f1 a b c h1
theorem in_u4 {LS : fT → sn_M → Prop} (hF : in_F LS) {T : fT} {S0 S0' S1 S1' : sT} {σ : sn_M} (h : in_v LS T S0 S0' S1 S1' σ) (w : Int) : in_v LS T S0 S0' S1 S1' (sn_u σ.1 40 0 0 w, σ.2) := in_c hF h w
theorem op_dual {LS : fT → sn_M → Prop} (hF : in_F LS) : lw_O (in_I LS) 2 := by
  refine ⟨_, _, _, _, by decide, by decide, tc_SN_dual, ct_MD_dual, fun n σ xs i hI hn hR => ?_⟩
  obtain ⟨T, S0, S0', S1, S1', hv⟩ := hI
  obtain ⟨hfo, hmt, hT, h80⟩ := id hv.1
  obtain ⟨l, has⟩ := lw_a1 xs i
  rw [has]
  refine fun G hG => ?_
  have bad : ¬ fT_in T l → lw_po (in_I LS) sp_MD_dual n [.inl l] (some (.inl 1)) σ := by
    intro h
    refine ⟨1, rfl, fun _ G2 => ?_⟩
    have hc := in_c hF hv 1
    have g : lw_q (in_I LS) n 1 (some (.inl 0)) (sn_u σ.1 40 0 0 1, σ.2) := lw_q1 0 rfl (by decide) ⟨T, S0, S0', S1, S1', hc⟩
    refine md_isF hmt l _ (fun h1 => absurd h1 h) (fun h1 => ?_)
    refine And.intro (fun _ => ?_) (fun w => absurd rfl w)
    exact And.intro (fun y => absurd (show (1 : Int) ≤ 0 from y) (by decide)) (fun _ => g)
  refine fo_has hfo l _ (fun hl => ?_) (fun hl => And.intro (fun _ => hG 11 1 _ σ rfl (bad hl)) (fun w => absurd rfl w))
  refine And.intro (fun w => absurd w (by decide)) (fun _ => ?_)
  have hl2 : l.toNat < T.2 := by have := hl.1; have := hl.2; omega
  obtain ⟨T', d1, d2, d3⟩ := dl_ex 80 l.toNat T hT hl2 (by omega)
  obtain ⟨e1, e2⟩ := dl_in hl2 d2 d3
  refine And.intro rfl ⟨T, T', hfo, hT, h80, hl, d1, fun σ1 hf1 => And.intro (fun h1 => ?_) (fun h1 => ?_)⟩
  · refine And.intro (fun w => absurd w (by decide)) (fun _ => ?_)
    have hfo1 : fo_v T σ1 := fo_v_7 hfo hf1
    refine And.intro rfl ⟨T, T', hfo1, hT, hl, d1, h1, fun σ2 hv2 hf2 => ⟨T'.1 3 l.toNat, rfl, 0, rfl, fun _ G2 => ?_⟩⟩
    have fr : ∀ a b c, ¬ (1 ≤ a ∧ a ≤ 8) → σ2.1 a b c = σ.1 a b c := fun a b c h => (hf2.2 a b c (fun z => h (by omega))).trans (hf1.2 a b c (fun z => h (by omega)))
    have hm2 : mt_v T σ2 := mt_v_fr (P := fun a _ _ => 1 ≤ a ∧ a ≤ 8) (σ := (σ.1, σ2.2)) hmt ⟨rfl, fun a b c h => fr a b c h⟩ (fun a c g1 g2 q => by omega) (fun q => by omega)
    have hm2 : mt_v T (σ2.1, sn_u σ2.2 65 0 0 (Int32.ofInt (T'.1 3 l.toNat)).toInt64) := hm2
    refine md_isF hm2 l _ (fun _ => ?_) (fun z => absurd hl z)
    refine And.intro (fun w => absurd w (by decide)) (fun _ => ?_)
    refine And.intro (fun _ => ?_) (fun w => absurd (show (0 : Int) < 0 from w) (by decide))
    refine And.intro rfl ⟨T, T', mt_c0 hm2 0, hT, h80, hl, d1, fun _ σ3 hm3 hf3 => ?_, fun w => absurd h1 (by omega)⟩
    refine And.intro (fun w => absurd w (Int.not_lt.mpr e2.1)) (fun _ => And.intro (fun _ => ?_) (fun w => absurd (show (0 : Int) < 0 from w) (by decide)))
    have fo3 : fo_v T' σ3 := fo_v_fr (show fo_v T' (sn_u σ2.1 40 0 0 0, sn_u σ2.2 65 0 0 (Int32.ofInt (T'.1 3 l.toNat)).toInt64) from hv2) hf3 (fun a c g1 g2 q => by omega)
    refine ⟨T'.1 3 l.toNat, rfl, rfl, fun _ => ?_, T', S0, S0', S1, S1', in_u4 hF (in_up hF hv (tm_g fr hf3) fo3 hm3 ⟨d2.1, h1⟩ e1) 0⟩
    show σ3.2 65 0 0 = _
    rw [hf3.1]
    show sn_u σ2.2 65 0 0 (Int32.ofInt (T'.1 3 l.toNat)).toInt64 65 0 0 = _
    exact sn_u_s
  · refine And.intro (fun _ => hG 32 2 _ σ1 rfl ⟨2, rfl, fun _ G2 => ?_⟩) (fun w => absurd rfl w)
    have fr : ∀ a b c, ¬ (1 ≤ a ∧ a ≤ 8) → σ1.1 a b c = σ.1 a b c := fun a b c h => hf1.2 a b c (fun z => h (by omega))
    have hm2 : mt_v T σ1 := mt_v_fr (P := fun a _ _ => 1 ≤ a ∧ a ≤ 8) (σ := (σ.1, σ1.2)) hmt ⟨rfl, fun a b c h => fr a b c h⟩ (fun a c g1 g2 q => by omega) (fun q => by omega)
    refine md_isF hm2 l _ (fun _ => ?_) (fun z => absurd hl z)
    refine And.intro (fun w => absurd w (by decide)) (fun _ => ?_)
    refine And.intro (fun _ => ?_) (fun w => absurd (show (0 : Int) < 0 from w) (by decide))
    refine And.intro rfl ⟨T, T', mt_c0 hm2 0, hT, h80, hl, d1, fun w => absurd h1 (by omega), fun _ σ3 hm3 hf3 => ?_⟩
    refine And.intro (fun _ => And.intro (fun w => absurd (show (2 : Int) ≤ 0 from w) (by decide)) (fun _ => ?_)) (fun w => absurd w (by decide))
    have fo3 : fo_v T σ3 := fo_v_fr (show fo_v T (sn_u σ1.1 40 0 0 0, σ1.2) from (show fo_v T σ1 from fo_v_7 hfo hf1)) hf3 (fun a c g1 g2 q => by omega)
    exact lw_q1 0 rfl (by decide) ⟨T, S0, S0', S1, S1', in_u4 hF (in_up hF hv (tm_g fr hf3) fo3 hm3 ⟨hT, h80⟩ (fg_rf T)) 2⟩
