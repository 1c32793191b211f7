/-! cut, link. -/
theorem s_aL_ct {S : sT} {l r : Int} : ∀ a, a < 9 → (s_ct S l r).1 a = (s_aL S 3 l r).1 a := by
  intro a ha
  match a with
  | 0 => rfl
  | 1 => rfl
  | 2 => rfl
  | 3 => rfl
  | 4 => rfl
  | 5 => rfl
  | 6 => rfl
  | 7 => rfl
  | 8 => rfl
theorem du_ne {T : fT} (hT : fT_ok T) {f : Nat} (hf : f < T.2) : T.1 3 f ≠ (f : Int) := by
  intro h
  have hd := hT.2.2.1 f hf
  have hw := hT.1 f hf
  by_cases hk : T.1 0 f = 0
  · rcases hd.1 hk with ⟨z, -⟩ | ⟨j, hj, e, hm⟩
    · omega
    · rw [h] at e
      obtain rfl : f = j := by omega
      have := hm.2.2
      omega
  · obtain ⟨h1, h2⟩ := hd.2 hk
    by_cases z : T.1 3 (T.1 1 f).toNat < 0 ∨ T.1 3 (T.1 2 f).toNat < 0
    · have := h1 z; omega
    · rcases h2 (by omega) (by omega) with ⟨y, -⟩ | ⟨j, hj, e, hm⟩
      · omega
      · rw [h] at e
        obtain rfl : f = j := by omega
        have := hm.1
        omega
theorem ov_q (σ : sn_M) (d : Nat → Int) : sn_fr in_q σ (sn_ov σ 44 0 d) := ⟨rfl, fun a b c hn => sn_ov_n (fun z => hn ⟨by omega, by omega, by omega, by omega, by omega, by omega⟩)⟩
theorem op_cut {LS : fT → sn_M → Prop} (hF : in_F LS) : lw_O (in_I LS) 7 := by
  refine ⟨_, _, _, _, by decide, by decide, tc_SN_cut, ct_MD_cut, fun n σ xs i hI hn hR => ?_⟩
  obtain ⟨T, S0, S0', S1, S1', hv⟩ := hI
  obtain ⟨hfo, hmt, hT, h80⟩ := id hv.1
  obtain ⟨l, r, has⟩ := lw_a2 xs i
  rw [has]
  refine fun G hG => ?_
  have hok := hv.2.1.2.2.2
  have heq := hv.2.1.2.2.1
  have b2 := hok.1.2.1
  have e10 : σ.1 9 0 10 = (S0.2.2.1 : Int) := sx_9 hv.2.1.1 (by omega)
  have r4 : σ.1 14 0 = S0.1 4 := hv.2.1.1.1 4 (by omega)
  have r3 : σ.1 5 0 = T.1 3 := hfo.1.2.2.2.1
  have ub : σ.1 9 0 10 ≤ 100 := by rw [e10]; omega
  have ty : ∀ e, s_fr S0 e → (0 ≤ e ∧ e < 100) ∧ 0 ≤ S0.1 4 e.toNat ∧ S0.1 4 e.toNat < (T.2 : Int) := by
    intro e he
    have h1 := he.1.1
    have h2 := he.1.2.1
    exact ⟨by omega, he.1.2.2, (hok.2.2.1 e.toNat (by omega)).1.2⟩
  -- the reference after the class, in a state like σ
  have fd : ∀ σ1 : sn_M, mt_v T σ1 → (0 ≤ σ1.1 40 0 1 ∧ σ1.1 40 0 1 ≤ 80) ∧ tb_w (σ1.1 41 0) (σ1.1 42 0) (σ1.1 43 0) (σ1.1 40 0 1).toNat ∧ ∀ d, dp_ok (σ1.1 41 0) (σ1.1 42 0) (σ1.1 43 0) (σ1.1 40 0 1).toNat d → ∀ g, g < T.2 → d g = T.1 3 g := by
    intro σ1 hm
    have e : (σ1.1 40 0 1).toNat = T.2 := by rw [hm.2]; rfl
    refine ⟨by rw [hm.2]; omega, ?_, fun d hd => mt_d hm hT (e ▸ hd)⟩
    rw [e]
    intro g hg
    obtain ⟨q1, q2, q3⟩ := hm.1 g hg
    rw [q1, q2, q3]
    exact hT.1 g hg
  have bad : ¬ (s_fr S0 l ∧ s_fr S0 r ∧ T.1 3 (S0.1 4 l.toNat).toNat = S0.1 4 r.toNat) → lw_po (in_I LS) sp_MD_cut n [.inl l, .inl r] (some (.inl 1)) σ := by
    intro h
    obtain ⟨f1, f2, f3⟩ := fd σ hmt
    refine ⟨1, rfl, fun _ G2 => And.intro rfl (And.intro f1 (And.intro f2 (fun d hd => ?_)))⟩
    have hd3 := f3 d hd
    have h0 := in_v_q hF hv (ov_q σ d)
    have hc := in_c hF h0 1
    have ms := in_sm h0.2.1
    have g : lw_q (in_I LS) n 1 (some (.inl 0)) (sn_u (sn_ov σ 44 0 d).1 40 0 0 1, σ.2) := lw_q1 0 rfl (by decide) ⟨T, S0, S0', S1, S1', hc⟩
    have mo : (0 : Int) ≤ 0 ∧ md_ok (sn_ov σ 44 0 d) (0 : Int).toNat := ⟨by omega, ms_ok ms (by omega)⟩
    have fin : ∀ (A : Prop), A → A := fun _ h => h
    refine And.intro rfl (And.intro mo ?_)
    show ((if md_f (sn_ov σ 44 0 d) 0 l then (1 : Int) else 0) = 0 → _) ∧ (¬ (if md_f (sn_ov σ 44 0 d) 0 l then (1 : Int) else 0) = 0 → _)
    by_cases hl : s_fr S0 l
    · rw [if_pos ((ms_E ms l).2.mpr hl)]
      refine And.intro (fun z => absurd z (by decide)) (fun _ => And.intro rfl (And.intro mo ?_))
      show ((if md_f (sn_ov σ 44 0 d) 0 r then (1 : Int) else 0) = 0 → _) ∧ (¬ (if md_f (sn_ov σ 44 0 d) 0 r then (1 : Int) else 0) = 0 → _)
      by_cases hr : s_fr S0 r
      · rw [if_pos ((ms_E ms r).2.mpr hr)]
        obtain ⟨l1, l2, l3⟩ := ty l hl
        obtain ⟨r1, r2, r3'⟩ := ty r hr
        have k1 : (sn_ov σ 44 0 d).1 53 0 l.toNat = S0.1 4 l.toNat := ms_e ms (a := 4) (by omega) (by omega) (by have := hl.1.2.1; omega) rfl (by omega)
        have k2 : (sn_ov σ 44 0 d).1 53 0 r.toNat = S0.1 4 r.toNat := ms_e ms (a := 4) (by omega) (by omega) (by have := hr.1.2.1; omega) rfl (by omega)
        refine And.intro (fun z => absurd z (by decide)) (fun _ => And.intro (show 0 ≤ l ∧ l < (400 : Nat) by omega) (And.intro (show 0 ≤ (sn_ov σ 44 0 d).1 53 0 l.toNat ∧ (sn_ov σ 44 0 d).1 53 0 l.toNat < (80 : Nat) by rw [k1]; omega) (And.intro (show 0 ≤ r ∧ r < (400 : Nat) by omega) (And.intro (fun z => ?_) (fun z => ?_)))))
        · have z : (sn_ov σ 44 0 d).1 44 0 ((sn_ov σ 44 0 d).1 53 0 l.toNat).toNat = (sn_ov σ 44 0 d).1 53 0 r.toNat := z
          rw [k1, k2, sn_ov_s, hd3 _ (by omega)] at z
          exact absurd ⟨hl, hr, z⟩ h
        · refine And.intro (fun _ => ?_) (fun w => absurd rfl w)
          exact And.intro (fun y => absurd (show (1 : Int) ≤ 0 from y) (by decide)) (fun _ => g)
      · rw [if_neg (fun z => hr ((ms_E ms r).2.mp z))]
        refine And.intro (fun _ => And.intro (fun _ => ?_) (fun w => absurd rfl w)) (fun z => absurd rfl z)
        exact And.intro (fun y => absurd (show (1 : Int) ≤ 0 from y) (by decide)) (fun _ => g)
    · rw [if_neg (fun z => hl ((ms_E ms l).2.mp z))]
      refine And.intro (fun _ => And.intro (fun _ => ?_) (fun w => absurd rfl w)) (fun z => absurd rfl z)
      exact And.intro (fun y => absurd (show (1 : Int) ≤ 0 from y) (by decide)) (fun _ => g)
  refine And.intro rfl (And.intro ub ?_)
  show ((if cs_f σ 0 l then (1 : Int) else 0) = 0 → _) ∧ (¬ (if cs_f σ 0 l then (1 : Int) else 0) = 0 → _)
  by_cases hl : s_fr S0 l
  case neg =>
    rw [if_neg (fun z => hl ((in_csE hv.2.1 l).2.mp z))]
    exact And.intro (fun _ => hG 51 1 _ σ rfl (bad (fun z => hl z.1))) (fun z => absurd rfl z)
  rw [if_pos ((in_csE hv.2.1 l).2.mpr hl)]
  refine And.intro (fun z => absurd z (by decide)) (fun _ => And.intro rfl (And.intro ub ?_))
  show ((if cs_f σ 0 r then (1 : Int) else 0) = 0 → _) ∧ (¬ (if cs_f σ 0 r then (1 : Int) else 0) = 0 → _)
  by_cases hr : s_fr S0 r
  case neg =>
    rw [if_neg (fun z => hr ((in_csE hv.2.1 r).2.mp z))]
    exact And.intro (fun _ => hG 51 1 _ σ rfl (bad (fun z => hr z.2.1))) (fun z => absurd rfl z)
  rw [if_pos ((in_csE hv.2.1 r).2.mpr hr)]
  obtain ⟨l1, l2, l3⟩ := ty l hl
  obtain ⟨q1, q2, q3⟩ := ty r hr
  refine And.intro (fun z => absurd z (by decide)) (fun _ => And.intro (show 0 ≤ l ∧ l < (100 : Nat) by omega) (And.intro (show 0 ≤ σ.1 14 0 l.toNat ∧ σ.1 14 0 l.toNat < (80 : Nat) by rw [r4]; omega) (And.intro (show 0 ≤ r ∧ r < (100 : Nat) by omega) (And.intro (fun z => ?_) (fun z => hG 51 1 _ σ rfl (bad (fun y => z ?_)))))))
  case refine_2 =>
    show σ.1 5 0 (σ.1 14 0 l.toNat).toNat = σ.1 14 0 r.toNat
    rw [r3, r4]
    exact y.2.2
  have z : σ.1 5 0 (σ.1 14 0 l.toNat).toNat = σ.1 14 0 r.toNat := z
  rw [r3, r4] at z
  have hne : l ≠ r := by
    intro e
    subst e
    have := du_ne hT (f := (S0.1 4 l.toNat).toNat) (by omega)
    omega
  -- the reference goes up to the room
  have ref : ∀ (σ1 : sn_M) (k : Int), mt_v T σ1 → my_s T S0 S0' 0 σ1 → (∀ d : Nat → Int, my_s T S0 S0' 0 (sn_ov σ1 44 0 d)) → (¬ hm_ok S0 0 → ∀ d, lw_q (in_I LS) n k (some (.inl 0)) (sn_u (sn_ov σ1 44 0 d).1 40 0 0 2, σ1.2)) → (hm_ok S0 0 → ∀ (d : Nat → Int) (σ2 : sn_M), my_v (s_aL S0' 3 l r) 0 σ2 → sn_fr (cp_P 0) (sn_u (sn_ov σ1 44 0 d).1 40 0 0 0, σ1.2) σ2 → lw_q (in_I LS) n k (some (.inl (S0'.2.1 : Int))) σ2) → sp_MD_cut [.inr (.inr (40, 0)), .inl l, .inl r] σ1 (lw_q (in_I LS) n k) := by
    intro σ1 k hm hms hmd hno hyes G2
    obtain ⟨f1, f2, f3⟩ := fd σ1 hm
    refine And.intro rfl (And.intro f1 (And.intro f2 (fun d hd => ?_)))
    have hd3 := f3 d hd
    have ms := hmd d
    have mo : (0 : Int) ≤ 0 ∧ md_ok (sn_ov σ1 44 0 d) (0 : Int).toNat := ⟨by omega, ms_ok ms (by omega)⟩
    refine And.intro rfl (And.intro mo ?_)
    show ((if md_f (sn_ov σ1 44 0 d) 0 l then (1 : Int) else 0) = 0 → _) ∧ (¬ (if md_f (sn_ov σ1 44 0 d) 0 l then (1 : Int) else 0) = 0 → _)
    rw [if_pos ((ms_E ms l).2.mpr hl)]
    refine And.intro (fun z => absurd z (by decide)) (fun _ => And.intro rfl (And.intro mo ?_))
    show ((if md_f (sn_ov σ1 44 0 d) 0 r then (1 : Int) else 0) = 0 → _) ∧ (¬ (if md_f (sn_ov σ1 44 0 d) 0 r then (1 : Int) else 0) = 0 → _)
    rw [if_pos ((ms_E ms r).2.mpr hr)]
    have k1 : (sn_ov σ1 44 0 d).1 53 0 l.toNat = S0.1 4 l.toNat := ms_e ms (a := 4) (by omega) (by omega) (by have := hl.1.2.1; omega) rfl (by omega)
    have k2 : (sn_ov σ1 44 0 d).1 53 0 r.toNat = S0.1 4 r.toNat := ms_e ms (a := 4) (by omega) (by omega) (by have := hr.1.2.1; omega) rfl (by omega)
    refine And.intro (fun z => absurd z (by decide)) (fun _ => And.intro (show 0 ≤ l ∧ l < (400 : Nat) by omega) (And.intro (show 0 ≤ (sn_ov σ1 44 0 d).1 53 0 l.toNat ∧ (sn_ov σ1 44 0 d).1 53 0 l.toNat < (80 : Nat) by rw [k1]; omega) (And.intro (show 0 ≤ r ∧ r < (400 : Nat) by omega) (And.intro (fun _ => ?_) (fun w => ?_)))))
    · refine And.intro (fun z => absurd z (by decide)) (fun _ => ?_)
      refine md_room ms 0 (by omega) _ (fun hroom => ?_) (fun hroom => ?_)
      · refine And.intro (fun z => absurd z (by decide)) (fun _ => And.intro (fun _ => ?_) (fun y => absurd (show (0 : Int) < 0 from y) (by decide)))
        have c3 : my_v S0' 0 (sn_u (sn_ov σ1 44 0 d).1 40 0 0 0, (sn_ov σ1 44 0 d).2) := my_c0 ms.1 0
        have n1 : S0'.2 = S0.2 := heq.1
        refine And.intro rfl ⟨0, S0', rfl, (by omega), c3, (by rw [n1]; exact hroom.1), (fun _ => ⟨l1, q1⟩), fun σ2 hv2 hf2 => ?_⟩
        exact hyes hroom d σ2 hv2 hf2
      · refine And.intro (fun _ => And.intro (fun y => absurd (show (2 : Int) ≤ 0 from y) (by decide)) (fun _ => hno hroom d)) (fun w => absurd rfl w)
    · refine absurd ?_ w
      show (sn_ov σ1 44 0 d).1 44 0 ((sn_ov σ1 44 0 d).1 53 0 l.toNat).toNat = (sn_ov σ1 44 0 d).1 53 0 r.toNat
      rw [k1, k2, sn_ov_s, hd3 _ (by omega)]
      exact z
  refine And.intro rfl ⟨s_X S0, hv.2.1.1, (show 0 ≤ (S0.2.2.1 : Int) ∧ (S0.2.2.1 : Int) ≤ 100 by omega), fun hroom => ?_, fun hroom => And.intro (fun _ => hG 72 2 _ σ rfl ⟨2, rfl, fun _ => ?_⟩) (fun w => absurd rfl w)⟩
  · have hr2 : hm_ok S0 0 := (hr_hm.mp hroom).1
    refine And.intro (fun w => absurd w (by decide)) (fun _ => ?_)
    refine And.intro rfl (And.intro l1 (And.intro q1 ⟨S0, hv.2.1.1, hr2.1, fun σ3 hv3 hf3 => ⟨(S0.2.1 : Int), rfl, 0, rfl, fun _ => ?_⟩⟩))
    have hv3 : sx_v (s_X (s_ct S0 l r)) 0 σ3 := hv3
    have hf3 : sx_f 0 σ σ3 := hf3
    have fr3 : ∀ a b c, ¬ (9 ≤ a ∧ a ≤ 18 ∧ b = 0) → σ3.1 a b c = σ.1 a b c := fun a b c h' => hf3.2 a b c (fun z => h' (by omega))
    have hm3 : mt_v T σ3 := mt_v_fr hmt hf3 (fun a c g1 g2 q => by omega) (fun q => by omega)
    have fo3 : fo_v T σ3 := fo_v_fr hfo hf3 (fun a c g1 g2 q => by omega)
    have ms3 : my_s T S0 S0' 0 σ3 := ms_of (in_sm hv.2.1) (fun a c q => fr3 a 0 c (fun z => by have := cp_46 q; omega)) (fg_rf T)
    have n1 : S0'.2 = S0.2 := heq.1
    refine ref (σ3.1, sn_u σ3.2 65 0 0 (Int32.ofInt (S0.2.1 : Int)).toInt64) 0 hm3 ms3 (fun d => ms_of (T' := T) ms3 (fun a c q => sn_ov_n (fun z => by have := cp_46 q; omega)) (fg_rf T)) (fun h => absurd hr2 h) (fun _ d σ5 hv5 hf5 => ?_)
    have c46 : ∀ {a b c : Nat}, cp_P 0 a b c → 46 ≤ a ∧ a ≤ 57 := by
      intro a b c q
      have hb := q.1
      subst hb
      exact cp_46 q
    have fr5 : ∀ a b c, ¬ (a = 40 ∧ c = 0) → ¬ a = 44 → ¬ cp_P 0 a b c → σ5.1 a b c = σ3.1 a b c := by
      intro a b c h h1 h'
      rw [hf5.2 a b c h']
      show sn_u (sn_ov (σ3.1, sn_u σ3.2 65 0 0 (Int32.ofInt (S0.2.1 : Int)).toInt64) 44 0 d).1 40 0 0 0 a b c = _
      rw [sn_u_n (fun z => h ⟨z.1, z.2.2⟩)]
      exact sn_ov_n (fun z => h1 z.1)
    have f5 : sn_fr (fun a b c => (a = 40 ∧ c = 0) ∨ a = 44 ∨ cp_P 0 a b c) (σ3.1, σ5.2) σ5 := ⟨rfl, fun a b c h => fr5 a b c (fun z => h (Or.inl z)) (fun z => h (Or.inr (Or.inl z))) (fun z => h (Or.inr (Or.inr z)))⟩
    have fo5 : fo_v T σ5 := fo_v_fr (σ := (σ3.1, σ5.2)) fo3 f5 (fun a c g1 g2 q => by
      rcases q with q | q | q
      · omega
      · omega
      · have := c46 q; omega)
    have mt5 : mt_v T σ5 := mt_v_fr (σ := (σ3.1, σ5.2)) hm3 f5 (fun a c g1 g2 q => by
      rcases q with q | q | q
      · omega
      · omega
      · have := c46 q; omega) (fun q => by
      rcases q with q | q | q
      · omega
      · omega
      · have := c46 q; omega)
    have sx5 : sx_v (s_X (s_ct S0 l r)) 0 σ5 := sx_v_fr (σ := (σ3.1, σ5.2)) hv3 f5 (fun a c g1 g2 q => by
      rcases q with q | q | q
      · omega
      · omega
      · have := c46 q; omega)
    have ok5 := s_ct_ok hok hr2.1 hr2.2.1 hl hr hne z
    have c05 : σ5.1 40 0 0 = 0 := by
      rw [hf5.2 40 0 0 (fun q => by have := c46 q; omega)]
      rfl
    refine ⟨(S0'.2.1 : Int), rfl, c05, fun _ => ?_, T, s_ct S0 l r, s_ct S0' l r, S1, S1', in_fin hF hv (fun a b c z1 z2 z3 z4 => (fr5 a b c (fun q => z2 (by omega)) (fun q => z2 (by omega)) z4).trans (fr3 a b c z3)) fo5 mt5 ⟨hT, h80⟩ (fg_rf T) sx5 (my_e hv5 s_aL_ct rfl) (s_ct_eq _ _ heq) ok5⟩
    rw [hf5.1, n1]
    show sn_u σ3.2 65 0 0 (Int32.ofInt (S0.2.1 : Int)).toInt64 65 0 0 = _
    exact sn_u_s
  · have nr : ¬ hm_ok S0 0 := fun z => hroom (hr_hm.mpr ⟨z, fun y => absurd y (by decide)⟩)
    refine ref σ 2 hmt (in_sm hv.2.1) (fun d => in_sm (in_v_q hF hv (ov_q σ d)).2.1) (fun _ d => ?_) (fun h => absurd h nr)
    exact lw_q1 0 rfl (by decide) ⟨T, S0, S0', S1, S1', in_c hF (in_v_q hF hv (ov_q σ d)) 2⟩
