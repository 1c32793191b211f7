/-! link. -/
theorem c46 {a b c : Nat} (q : cp_P 0 a b c) : 46 ≤ a ∧ a ≤ 57 := by
  have hb := q.1
  subst hb
  exact cp_46 q
set_option maxHeartbeats 6000000 in
theorem op_link {LS : fT → sn_M → Prop} (hF : in_F LS) : lw_O (in_I LS) 6 := by
  refine ⟨_, _, _, _, by decide, by decide, tc_SN_link, ct_MD_link, fun n σ xs i hI hn hR => ?_⟩
  obtain ⟨T, S0, S0', S1, S1', hv⟩ := hI
  obtain ⟨hfo, hmt, hT, h80⟩ := id hv.1
  obtain ⟨l, r, b, hb, has⟩ := lw_ab2 xs i
  rw [has]
  refine fun G hG => ?_
  have hok := hv.2.1.2.2.2
  have heq := hv.2.1.2.2.1
  have n1 : S0'.2 = S0.2 := heq.1
  have b2 := hok.1.2.1
  have e10 : σ.1 9 0 10 = (S0.2.2.1 : Int) := sx_9 hv.2.1.1 (by omega)
  have r4 : σ.1 14 0 = S0.1 4 := hv.2.1.1.1 4 (by omega)
  have ub : σ.1 9 0 10 ≤ 100 := by rw [e10]; omega
  have ty : ∀ e, s_fr S0 e → (0 ≤ e ∧ e < 100) ∧ 0 ≤ S0.1 4 e.toNat ∧ S0.1 4 e.toNat < (T.2 : Int) := by
    intro e he
    have h1 := he.1.1
    have h2 := he.1.2.1
    exact ⟨by omega, he.1.2.2, (hok.2.2.1 e.toNat (by omega)).1.2⟩
  have bad : ¬ (s_fr S0 l ∧ s_fr S0 r ∧ l ≠ r) → lw_po (in_I LS) sp_MD_link n [.inl l, .inl r, .inl b] (some (.inl 1)) σ := by
    intro h
    refine ⟨1, rfl, fun _ G2 => ?_⟩
    have hc := in_c hF hv 1
    have ms := in_sm hv.2.1
    have g : lw_q (in_I LS) n 1 (some (.inl 0)) (sn_u σ.1 40 0 0 1, σ.2) := lw_q1 0 rfl (by decide) ⟨T, S0, S0', S1, S1', hc⟩
    have mo : (0 : Int) ≤ 0 ∧ md_ok σ (0 : Int).toNat := ⟨by omega, ms_ok ms (by omega)⟩
    refine And.intro rfl (And.intro mo ?_)
    show ((if md_f σ 0 l then (1 : Int) else 0) = 0 → _) ∧ (¬ (if md_f σ 0 l then (1 : Int) else 0) = 0 → _)
    by_cases hl : s_fr S0 l
    · rw [if_pos ((ms_E ms l).2.mpr hl)]
      refine And.intro (fun z => absurd z (by decide)) (fun _ => And.intro rfl (And.intro mo ?_))
      show ((if md_f σ 0 r then (1 : Int) else 0) = 0 → _) ∧ (¬ (if md_f σ 0 r then (1 : Int) else 0) = 0 → _)
      by_cases hr : s_fr S0 r
      · rw [if_pos ((ms_E ms r).2.mpr hr)]
        refine And.intro (fun z => absurd z (by decide)) (fun _ => And.intro (fun _ => ?_) (fun w => absurd ⟨hl, hr, w⟩ h))
        exact And.intro (fun y => absurd (show (1 : Int) ≤ 0 from y) (by decide)) (fun _ => g)
      · rw [if_neg (fun z => hr ((ms_E ms r).2.mp z))]
        refine And.intro (fun _ => ?_) (fun z => absurd rfl z)
        exact And.intro (fun y => absurd (show (1 : Int) ≤ 0 from y) (by decide)) (fun _ => g)
    · rw [if_neg (fun z => hl ((ms_E ms l).2.mp z))]
      refine And.intro (fun _ => ?_) (fun z => absurd rfl z)
      exact And.intro (fun y => absurd (show (1 : Int) ≤ 0 from y) (by decide)) (fun _ => g)
  refine And.intro rfl (And.intro ub ?_)
  show ((if cs_f σ 0 l then (1 : Int) else 0) = 0 → _) ∧ (¬ (if cs_f σ 0 l then (1 : Int) else 0) = 0 → _)
  by_cases hl : s_fr S0 l
  case neg =>
    rw [if_neg (fun z => hl ((in_csE hv.2.1 l).2.mp z))]
    exact And.intro (fun _ => hG 27 1 _ σ rfl (bad (fun z => hl z.1))) (fun z => absurd rfl z)
  rw [if_pos ((in_csE hv.2.1 l).2.mpr hl)]
  refine And.intro (fun z => absurd z (by decide)) (fun _ => And.intro rfl (And.intro ub ?_))
  show ((if cs_f σ 0 r then (1 : Int) else 0) = 0 → _) ∧ (¬ (if cs_f σ 0 r then (1 : Int) else 0) = 0 → _)
  by_cases hr : s_fr S0 r
  case neg =>
    rw [if_neg (fun z => hr ((in_csE hv.2.1 r).2.mp z))]
    exact And.intro (fun _ => hG 27 1 _ σ rfl (bad (fun z => hr z.2.1))) (fun z => absurd rfl z)
  rw [if_pos ((in_csE hv.2.1 r).2.mpr hr)]
  refine And.intro (fun z => absurd z (by decide)) (fun _ => And.intro (fun w => hG 27 1 _ σ rfl (bad (fun z => z.2.2 w))) (fun hne => ?_))
  have hne : ¬ l = r := hne
  obtain ⟨l1, l2, l3⟩ := ty l hl
  obtain ⟨q1, q2, q3⟩ := ty r hr
  -- the reference up to its room, and to making the formula
  have ref : ∀ (σ1 : sn_M) (k kd : Int), ((b = 0 ∧ kd = 2) ∨ (b = 1 ∧ kd = 1)) → my_s T S0 S0' 0 σ1 → (¬ (hm_ok S0 1 ∧ (kd = 2 → cn_ct (S0.1 0) 2 S0.2.1 < 8)) → lw_q (in_I LS) n k (some (.inl 0)) (sn_u σ1.1 40 0 0 2, σ1.2)) →
      ((hm_ok S0 1 ∧ (kd = 2 → cn_ct (S0.1 0) 2 S0.2.1 < 8)) → mt_v T σ1 ∧ ((T.2 = 80 ∧ fm_F (T.1 0) (T.1 1) (T.1 2) T.2 kd (S0.1 4 l.toNat) (S0.1 4 r.toNat) (-1) ∧ lw_q (in_I LS) n k (some (.inl 0)) (sn_u (sn_u σ1.1 40 0 0 0) 40 0 0 2, σ1.2)) ∨ ∃ x T', fmk T kd (S0.1 4 l.toNat) (S0.1 4 r.toNat) x T' ∧ 0 ≤ x ∧ ∀ σ2 σ3, mt_v T' σ2 → mt_f (sn_u σ1.1 40 0 0 0, σ1.2) σ2 → my_v (s_jn S0' kd l r x) 0 σ3 → sn_fr (cp_P 0) σ2 σ3 → lw_q (in_I LS) n k (some (.inl (S0'.2.1 : Int))) σ3)) → sp_MD_link [.inr (.inr (40, 0)), .inl l, .inl r, .inl b] σ1 (lw_q (in_I LS) n k) := by
    intro σ1 k kd hkd ms hno hyes G2
    have mo : (0 : Int) ≤ 0 ∧ md_ok σ1 (0 : Int).toNat := ⟨by omega, ms_ok ms (by omega)⟩
    refine And.intro rfl (And.intro mo ?_)
    show ((if md_f σ1 0 l then (1 : Int) else 0) = 0 → _) ∧ (¬ (if md_f σ1 0 l then (1 : Int) else 0) = 0 → _)
    rw [if_pos ((ms_E ms l).2.mpr hl)]
    refine And.intro (fun z => absurd z (by decide)) (fun _ => And.intro rfl (And.intro mo ?_))
    show ((if md_f σ1 0 r then (1 : Int) else 0) = 0 → _) ∧ (¬ (if md_f σ1 0 r then (1 : Int) else 0) = 0 → _)
    rw [if_pos ((ms_E ms r).2.mpr hr)]
    refine And.intro (fun z => absurd z (by decide)) (fun _ => And.intro (fun w => absurd w hne) (fun _ => ?_))
    have k1 : σ1.1 53 0 l.toNat = S0.1 4 l.toNat := ms_e ms (a := 4) (by omega) (by omega) (by have := hl.1.2.1; omega) rfl (by omega)
    have k2 : σ1.1 53 0 r.toNat = S0.1 4 r.toNat := ms_e ms (a := 4) (by omega) (by omega) (by have := hr.1.2.1; omega) rfl (by omega)
    have il : 0 ≤ l ∧ l < (400 : Nat) := by omega
    have ir : 0 ≤ r ∧ r < (400 : Nat) := by omega
    have ct := ms_ct ms 2
    have ct : cn_ct (fun l => σ1.1 49 0 (60 * (0 : Int).toNat + l)) 2 (σ1.1 46 0 (0 : Int).toNat).toNat = _ := ct
    refine md_room ms 1 (by omega) _ (fun hroom => ?_) (fun hroom => ?_)
    case refine_2 =>
      refine And.intro (fun _ => ?_) (fun w => absurd rfl w)
      exact And.intro (fun y => absurd (show (2 : Int) ≤ 0 from y) (by decide)) (fun _ => hno (fun z => hroom z.1))
    have c3 : my_v S0' 0 (sn_u σ1.1 40 0 0 0, σ1.2) := my_c0 ms.1 0
    refine And.intro (fun z => absurd z (by decide)) (fun _ => ?_)
    rcases hkd with ⟨rfl, rfl⟩ | ⟨rfl, rfl⟩
    · refine And.intro (fun _ => And.intro rfl (And.intro mo ?_)) (fun w => absurd rfl w)
      rw [ct]
      refine And.intro (fun w => ?_) (fun w => ?_)
      · have w : cn_ct (S0.1 0) 2 S0.2.1 = 8 := w
        exact And.intro (fun y => absurd (show (2 : Int) ≤ 0 from y) (by decide)) (fun _ => hno (fun z => by have := z.2 rfl; omega))
      · have w : ¬ cn_ct (S0.1 0) 2 S0.2.1 = 8 := w
        have lt8 : cn_ct (S0.1 0) 2 S0.2.1 < 8 := by have := hok.2.2.2.2.2; omega
        refine And.intro (fun _ => ?_) (fun y => absurd (show (0 : Int) < 0 from y) (by decide))
        obtain ⟨hm, hy⟩ := hyes ⟨hroom, fun _ => lt8⟩
        refine And.intro (fun _ => And.intro il (And.intro ir ?_)) (fun w => absurd rfl w)
        have k1 : (sn_u σ1.1 40 0 0 0) 53 0 l.toNat = S0.1 4 l.toNat := k1
        have k2 : (sn_u σ1.1 40 0 0 0) 53 0 r.toNat = S0.1 4 r.toNat := k2
        rcases hy with ⟨h1, h2, h3⟩ | ⟨x, T', hk, hx0, h3⟩
        · obtain ⟨m1, m2⟩ := md_mk0 (mt_c0 hm 0) hT h1 h2
          rw [← k1, ← k2] at m2
          refine And.intro rfl (And.intro m1 (fun y hy => ?_))
          obtain ⟨rfl, e2⟩ := m2 y hy
          refine And.intro (fun w => absurd w (by decide)) (And.intro (fun _ _ => ?_) (fun _ w => absurd w e2))
          exact And.intro (fun _ => h3) (fun w => absurd w (by decide))
        · obtain ⟨m1, m2⟩ := md_mk (mt_c0 hm 0) hT h80 hk
          rw [← k1, ← k2] at m2
          refine And.intro rfl (And.intro m1 (fun y hy => ?_))
          obtain ⟨p1, p2, p3⟩ := m2 y hy
          refine And.intro (fun w => ?_) (And.intro (fun w1 w2 => (p2 w1 w2).elim) (fun w1 w2 => ?_))
          · obtain ⟨rfl, a1, a2⟩ := p1 w
            refine And.intro (fun w' => absurd (show y < 0 from w') (by omega)) (fun _ => And.intro (fun _ => ?_) (fun w => absurd rfl w))
            refine And.intro rfl ⟨0, S0', rfl, (by omega), c3, (by rw [n1]; exact hroom.1), (by rw [n1]; have := hroom.2.2; omega), ⟨by decide, l1, q1.1, q1.2⟩, fun σ3 hv3 hf3 => h3 _ σ3 a1 a2 hv3 hf3⟩
          · obtain ⟨e, a1, a2⟩ := p3 w1 w2
            rw [e]
            refine And.intro (fun w' => absurd w' (Int.not_lt.mpr hx0)) (fun _ => And.intro (fun _ => ?_) (fun w => absurd rfl w))
            have my2 : my_v S0' 0 _ := my_v_fr c3 a2 (fun a c q z => by have := cp_46 q; omega)
            refine And.intro rfl ⟨0, S0', rfl, (by omega), my2, (by rw [n1]; exact hroom.1), (by rw [n1]; have := hroom.2.2; omega), ⟨by decide, l1, q1.1, q1.2⟩, fun σ3 hv3 hf3 => h3 _ σ3 a1 a2 hv3 hf3⟩
    · refine And.intro (fun w => absurd w (by decide)) (fun _ => ?_)
      refine And.intro (fun _ => ?_) (fun y => absurd (show (0 : Int) < 0 from y) (by decide))
      obtain ⟨hm, hy⟩ := hyes ⟨hroom, fun z => absurd z (by decide)⟩
      refine And.intro (fun w => absurd w (by decide)) (fun _ => And.intro il (And.intro ir ?_))
      have k1 : (sn_u σ1.1 40 0 0 0) 53 0 l.toNat = S0.1 4 l.toNat := k1
      have k2 : (sn_u σ1.1 40 0 0 0) 53 0 r.toNat = S0.1 4 r.toNat := k2
      rcases hy with ⟨h1, h2, h3⟩ | ⟨x, T', hk, hx0, h3⟩
      · obtain ⟨m1, m2⟩ := md_mk0 (mt_c0 hm 0) hT h1 h2
        rw [← k1, ← k2] at m2
        refine And.intro rfl (And.intro m1 (fun y hy => ?_))
        obtain ⟨rfl, e2⟩ := m2 y hy
        refine And.intro (fun w => absurd w (by decide)) (And.intro (fun _ _ => ?_) (fun _ w => absurd w e2))
        exact And.intro (fun _ => h3) (fun w => absurd w (by decide))
      · obtain ⟨m1, m2⟩ := md_mk (mt_c0 hm 0) hT h80 hk
        rw [← k1, ← k2] at m2
        refine And.intro rfl (And.intro m1 (fun y hy => ?_))
        obtain ⟨p1, p2, p3⟩ := m2 y hy
        refine And.intro (fun w => ?_) (And.intro (fun w1 w2 => (p2 w1 w2).elim) (fun w1 w2 => ?_))
        · obtain ⟨rfl, a1, a2⟩ := p1 w
          refine And.intro (fun w' => absurd (show y < 0 from w') (by omega)) (fun _ => And.intro (fun w => absurd w (by decide)) (fun _ => ?_))
          refine And.intro rfl ⟨0, S0', rfl, (by omega), c3, (by rw [n1]; exact hroom.1), (by rw [n1]; have := hroom.2.2; omega), ⟨by decide, l1, q1.1, q1.2⟩, fun σ3 hv3 hf3 => h3 _ σ3 a1 a2 hv3 hf3⟩
        · obtain ⟨e, a1, a2⟩ := p3 w1 w2
          rw [e]
          refine And.intro (fun w' => absurd w' (Int.not_lt.mpr hx0)) (fun _ => And.intro (fun w => absurd w (by decide)) (fun _ => ?_))
          have my2 : my_v S0' 0 _ := my_v_fr c3 a2 (fun a c q z => by have := cp_46 q; omega)
          refine And.intro rfl ⟨0, S0', rfl, (by omega), my2, (by rw [n1]; exact hroom.1), (by rw [n1]; have := hroom.2.2; omega), ⟨by decide, l1, q1.1, q1.2⟩, fun σ3 hv3 hf3 => h3 _ σ3 a1 a2 hv3 hf3⟩
  have noroom : ∀ kd : Int, ((b = 0 ∧ kd = 2) ∨ (b = 1 ∧ kd = 1)) → ¬ (hm_ok S0 1 ∧ (kd = 2 → cn_ct (S0.1 0) 2 S0.2.1 < 8)) → lw_po (in_I LS) sp_MD_link n [.inl l, .inl r, .inl b] (some (.inl 2)) σ := by
    intro kd hkd h
    exact ⟨2, rfl, fun _ => ref σ 2 kd hkd (in_sm hv.2.1) (fun _ => lw_q1 0 rfl (by decide) ⟨T, S0, S0', S1, S1', in_c hF hv 2⟩) (fun z => absurd z h)⟩
  have full : ∀ kd : Int, ((b = 0 ∧ kd = 2) ∨ (b = 1 ∧ kd = 1)) → T.2 = 80 → fm_F (T.1 0) (T.1 1) (T.1 2) T.2 kd (S0.1 4 l.toNat) (S0.1 4 r.toNat) (-1) → lw_po (in_I LS) sp_MD_link n [.inl l, .inl r, .inl b] (some (.inl 2)) σ := by
    intro kd hkd h1 h2
    exact ⟨2, rfl, fun _ => ref σ 2 kd hkd (in_sm hv.2.1) (fun _ => lw_q1 0 rfl (by decide) ⟨T, S0, S0', S1, S1', in_c hF hv 2⟩) (fun _ => ⟨hmt, Or.inl ⟨h1, h2, lw_q1 0 rfl (by decide) ⟨T, S0, S0', S1, S1', in_c hF (in_c hF hv 0) 2⟩⟩⟩)⟩
  have good : ∀ kd : Int, ((b = 0 ∧ kd = 2) ∨ (b = 1 ∧ kd = 1)) → (hm_ok S0 1 ∧ (kd = 2 → cn_ct (S0.1 0) 2 S0.2.1 < 8)) → ∀ (x : Int) (T' : fT) (σ1 σ3 : sn_M), fmk T kd (S0.1 4 l.toNat) (S0.1 4 r.toNat) x T' → fo_v T' σ1 → fo_f σ σ1 → sx_v (s_X (s_jn S0 kd l r x)) 0 σ3 → sx_f 0 σ1 σ3 → lw_po (in_I LS) sp_MD_link n [.inl l, .inl r, .inl b] (some (.inl 0)) (σ3.1, sn_u σ3.2 65 0 0 (Int32.ofInt (S0.2.1 : Int)).toInt64) := by
    intro kd hkd hroom x T' σ1 σ3 hk hv1 hf1 hv3 hf3
    have hs : fmk_s T kd (S0.1 4 l.toNat) (S0.1 4 r.toNat) := Or.inr ⟨by omega, ⟨l2, l3⟩, ⟨q2, q3⟩⟩
    obtain ⟨k1, k2, k3, t0, t1, t2⟩ := fmk_ok hT h80 hs hk
    have fr3 : ∀ a b c, ¬ (1 ≤ a ∧ a ≤ 8) → ¬ (9 ≤ a ∧ a ≤ 18 ∧ b = 0) → σ3.1 a b c = σ.1 a b c := fun a b c h h' => (hf3.2 a b c (fun z => h' (by omega))).trans (hf1.2 a b c (fun z => h (by omega)))
    have fo3 : fo_v T' σ3 := fo_v_fr hv1 hf3 (fun a c g1 g2 q => by omega)
    have hm3 : mt_v T σ3 := mt_v_fr (P := fun a b _ => 1 ≤ a ∧ a ≤ 18) (σ := (σ.1, σ3.2)) hmt ⟨rfl, fun a b c h => fr3 a b c (fun z => h (by omega)) (fun z => h (by omega))⟩ (fun a c g1 g2 q => by omega) (fun q => by omega)
    have ms3 : my_s T S0 S0' 0 σ3 := ms_of (in_sm hv.2.1) (fun a c q => fr3 a 0 c (fun z => by have := cp_46 q; omega) (fun z => by have := cp_46 q; omega)) (fg_rf T)
    refine ⟨0, rfl, fun _ => ref (σ3.1, sn_u σ3.2 65 0 0 (Int32.ofInt (S0.2.1 : Int)).toInt64) 0 kd hkd ms3 (fun z => absurd hroom z) (fun _ => ⟨hm3, Or.inr ⟨x, T', hk, k3.1, fun σ4 σ5 hm4 hf4 hv5 hf5 => ?_⟩⟩)⟩
    have fr5 : ∀ a b c, ¬ (40 ≤ a ∧ a ≤ 45) → ¬ cp_P 0 a b c → σ5.1 a b c = σ3.1 a b c := by
      intro a b c h h'
      rw [hf5.2 a b c h', hf4.2 a b c (fun z => h (by omega))]
      show sn_u σ3.1 40 0 0 0 a b c = _
      exact sn_u_n (fun z => h (by omega))
    have f5 : sn_fr (fun a b c => (40 ≤ a ∧ a ≤ 45) ∨ cp_P 0 a b c) (σ3.1, σ5.2) σ5 := ⟨rfl, fun a b c h => fr5 a b c (fun z => h (Or.inl z)) (fun z => h (Or.inr z))⟩
    have fo5 : fo_v T' σ5 := fo_v_fr (σ := (σ3.1, σ5.2)) fo3 f5 (fun a c g1 g2 q => by
      rcases q with q | q
      · omega
      · have := c46 q; omega)
    have mt5 : mt_v T' σ5 := mt_v_fr hm4 hf5 (fun a c g1 g2 q => by have := c46 q; omega) (fun q => by have := c46 q; omega)
    have sx5 : sx_v (s_X (s_jn S0 kd l r x)) 0 σ5 := sx_v_fr (σ := (σ3.1, σ5.2)) hv3 f5 (fun a c g1 g2 q => by
      rcases q with q | q
      · omega
      · have := c46 q; omega)
    have ok5 := s_jn_ok (T := T') (S := S0) (k := kd) (l := l) (r := r) (f := x) (s_ok_T hok k2.1 k2.2.1 k2.2.2) hroom.1.1 (by have := hroom.1.2.2; omega) hroom.1.2.1 (by omega) hroom.2 hl hr hne k3 t0 t1 t2
    have c05 : σ5.1 40 0 0 = 0 := by
      rw [hf5.2 40 0 0 (fun q => by have := c46 q; omega), hf4.2 40 0 0 (fun z => by omega)]
      rfl
    refine ⟨(S0'.2.1 : Int), rfl, c05, fun _ => ?_, T', s_jn S0 kd l r x, s_jn S0' kd l r x, S1, S1', in_fin hF hv (fun a b c z1 z2 z3 z4 => (fr5 a b c z2 z4).trans (fr3 a b c z1 z3)) fo5 mt5 k1 k2 sx5 hv5 (s_jn_eq _ _ _ _ heq) ok5⟩
    rw [hf5.1, hf4.1, n1]
    show sn_u σ3.2 65 0 0 (Int32.ofInt (S0.2.1 : Int)).toInt64 65 0 0 = _
    exact sn_u_s
  have sx1 : ∀ σ1, fo_f σ σ1 → sx_v (s_X S0) 0 σ1 := fun σ1 f => sx_v_fr hv.2.1.1 f (fun a c g1 g2 q => by omega)
  have il : 0 ≤ l ∧ l < (100 : Nat) := by omega
  have ir : 0 ≤ r ∧ r < (100 : Nat) := by omega
  have ub2 : 0 ≤ (S0.2.2.1 : Int) ∧ (S0.2.2.1 : Int) ≤ 100 := by omega
  rcases hb with rfl | rfl
  · have hkd : ((0 : Int) = 0 ∧ (2 : Int) = 2) ∨ ((0 : Int) = 1 ∧ (2 : Int) = 1) := Or.inl ⟨rfl, rfl⟩
    have hs : fmk_s T 2 (S0.1 4 l.toNat) (S0.1 4 r.toNat) := Or.inr ⟨by omega, ⟨l2, l3⟩, ⟨q2, q3⟩⟩
    refine And.intro (fun _ => And.intro il (And.intro ir ?_)) (fun w => absurd rfl w)
    refine And.intro rfl ⟨s_X S0, hv.2.1.1, ub2, fun hroom => ?_, fun hroom => And.intro (fun _ => hG 98 2 _ σ rfl (noroom 2 hkd (fun z => hroom (hr_hm.mpr z)))) (fun w => absurd rfl w)⟩
    have hr2 := hr_hm.mp hroom
    refine And.intro (fun w => absurd w (by decide)) (fun _ => ?_)
    rw [r4]
    refine And.intro rfl ⟨T, hfo, h80, fun hc => ?_, fun h1 x hx => And.intro (fun hx1 => ?_) (fun hx1 => ?_)⟩
    · refine And.intro (fun w => absurd w (by decide)) (fun _ => And.intro rfl ⟨T, hfo, hT, h80, fun x hx => And.intro (fun h0 => ?_) (fun z => ?_)⟩)
      · refine And.intro rfl (And.intro (Or.inr rfl) (And.intro l1 (And.intro q1 ⟨S0, hv.2.1.1, hr2.1.1, (by have := hr2.1.2.2; have e : (if (2 : Int) = 0 then (2 : Int) else if (2 : Int) = 3 then 0 else 1) = 1 := rfl; omega), fun σ3 hv3 hf3 => ⟨(S0.2.1 : Int), rfl, ?_⟩⟩)))
        exact good 2 hkd hr2 x T σ σ3 ((fmk_cls hs (Or.inl hc) x hx).1 h0) hfo ⟨rfl, fun _ _ _ _ => rfl⟩ hv3 hf3
      · obtain ⟨c1, c2, c3⟩ := (fmk_cls hs (Or.inl hc) x hx).2 z
        refine ⟨c1, c2, fun y σ1 hy hv1 hf1 => ?_⟩
        refine And.intro rfl (And.intro (Or.inr rfl) (And.intro l1 (And.intro q1 ⟨S0, sx1 σ1 hf1, hr2.1.1, (by have := hr2.1.2.2; have e : (if (2 : Int) = 0 then (2 : Int) else if (2 : Int) = 3 then 0 else 1) = 1 := rfl; omega), fun σ3 hv3 hf3 => ⟨(S0.2.1 : Int), rfl, ?_⟩⟩)))
        exact good 2 hkd hr2 _ _ σ1 σ3 (c3 y hy) hv1 hf1 hv3 hf3
    · refine And.intro (fun _ => hG 98 2 _ σ rfl (full 2 hkd h1 ?_)) (fun w => absurd rfl w)
      rw [← hx1]
      exact hx
    · refine And.intro (fun w => absurd w (by decide)) (fun _ => And.intro rfl ⟨T, hfo, hT, h80, fun x' hx' => And.intro (fun h0 => ?_) (fun z => ?_)⟩)
      · refine And.intro rfl (And.intro (Or.inr rfl) (And.intro l1 (And.intro q1 ⟨S0, hv.2.1.1, hr2.1.1, (by have := hr2.1.2.2; have e : (if (2 : Int) = 0 then (2 : Int) else if (2 : Int) = 3 then 0 else 1) = 1 := rfl; omega), fun σ3 hv3 hf3 => ⟨(S0.2.1 : Int), rfl, ?_⟩⟩)))
        exact good 2 hkd hr2 x' T σ σ3 ((fmk_cls hs (Or.inr (fun y => hx1 (fm_F_u hT.2.1 hx y))) x' hx').1 h0) hfo ⟨rfl, fun _ _ _ _ => rfl⟩ hv3 hf3
      · exact absurd ((fm_F_u hT.2.1 hx hx').trans z) hx1
  · have hkd : ((1 : Int) = 0 ∧ (1 : Int) = 2) ∨ ((1 : Int) = 1 ∧ (1 : Int) = 1) := Or.inr ⟨rfl, rfl⟩
    have hs : fmk_s T 1 (S0.1 4 l.toNat) (S0.1 4 r.toNat) := Or.inr ⟨by omega, ⟨l2, l3⟩, ⟨q2, q3⟩⟩
    refine And.intro (fun w => absurd w (by decide)) (fun _ => And.intro il (And.intro ir ?_))
    refine And.intro rfl ⟨s_X S0, hv.2.1.1, ub2, fun hroom => ?_, fun hroom => And.intro (fun _ => hG 98 2 _ σ rfl (noroom 1 hkd (fun z => hroom (hr_hm.mpr z)))) (fun w => absurd rfl w)⟩
    have hr2 := hr_hm.mp hroom
    refine And.intro (fun w => absurd w (by decide)) (fun _ => ?_)
    rw [r4]
    refine And.intro rfl ⟨T, hfo, h80, fun hc => ?_, fun h1 x hx => And.intro (fun hx1 => ?_) (fun hx1 => ?_)⟩
    · refine And.intro (fun w => absurd w (by decide)) (fun _ => And.intro rfl ⟨T, hfo, hT, h80, fun x hx => And.intro (fun h0 => ?_) (fun z => ?_)⟩)
      · refine And.intro rfl (And.intro (Or.inl rfl) (And.intro l1 (And.intro q1 ⟨S0, hv.2.1.1, hr2.1.1, (by have := hr2.1.2.2; have e : (if (1 : Int) = 0 then (2 : Int) else if (1 : Int) = 3 then 0 else 1) = 1 := rfl; omega), fun σ3 hv3 hf3 => ⟨(S0.2.1 : Int), rfl, ?_⟩⟩)))
        exact good 1 hkd hr2 x T σ σ3 ((fmk_cls hs (Or.inl hc) x hx).1 h0) hfo ⟨rfl, fun _ _ _ _ => rfl⟩ hv3 hf3
      · obtain ⟨c1, c2, c3⟩ := (fmk_cls hs (Or.inl hc) x hx).2 z
        refine ⟨c1, c2, fun y σ1 hy hv1 hf1 => ?_⟩
        refine And.intro rfl (And.intro (Or.inl rfl) (And.intro l1 (And.intro q1 ⟨S0, sx1 σ1 hf1, hr2.1.1, (by have := hr2.1.2.2; have e : (if (1 : Int) = 0 then (2 : Int) else if (1 : Int) = 3 then 0 else 1) = 1 := rfl; omega), fun σ3 hv3 hf3 => ⟨(S0.2.1 : Int), rfl, ?_⟩⟩)))
        exact good 1 hkd hr2 _ _ σ1 σ3 (c3 y hy) hv1 hf1 hv3 hf3
    · refine And.intro (fun _ => hG 98 2 _ σ rfl (full 1 hkd h1 ?_)) (fun w => absurd rfl w)
      rw [← hx1]
      exact hx
    · refine And.intro (fun w => absurd w (by decide)) (fun _ => And.intro rfl ⟨T, hfo, hT, h80, fun x' hx' => And.intro (fun h0 => ?_) (fun z => ?_)⟩)
      · refine And.intro rfl (And.intro (Or.inl rfl) (And.intro l1 (And.intro q1 ⟨S0, hv.2.1.1, hr2.1.1, (by have := hr2.1.2.2; have e : (if (1 : Int) = 0 then (2 : Int) else if (1 : Int) = 3 then 0 else 1) = 1 := rfl; omega), fun σ3 hv3 hf3 => ⟨(S0.2.1 : Int), rfl, ?_⟩⟩)))
        exact good 1 hkd hr2 x' T σ σ3 ((fmk_cls hs (Or.inr (fun y => hx1 (fm_F_u hT.2.1 hx y))) x' hx').1 h0) hfo ⟨rfl, fun _ _ _ _ => rfl⟩ hv3 hf3
      · exact absurd ((fm_F_u hT.2.1 hx hx').trans z) hx1
