/-! axiom, cut. -/
/-- the end of a call that made formulas and drew in the structure -/
theorem in_fin {LS : fT → sn_M → Prop} (hF : in_F LS) {T T' : fT} {S S' S0 S0' S1 S1' : sT} {σ σ2 : sn_M} (h : in_v LS T S0 S0' S1 S1' σ) (f : ∀ a b c, ¬ (1 ≤ a ∧ a ≤ 8) → ¬ (40 ≤ a ∧ a ≤ 45) → ¬ (9 ≤ a ∧ a ≤ 18 ∧ b = 0) → ¬ cp_P 0 a b c → σ2.1 a b c = σ.1 a b c) (v : fo_v T' σ2) (m : mt_v T' σ2) (k : fT_ok T' ∧ T'.2 ≤ 80) (g : fg T T') (x : sx_v (s_X S) 0 σ2) (y : my_v S' 0 σ2) (e : s_eq S S') (o : s_ok T' S) : in_v LS T' S S' S1 S1' σ2 := by
  obtain ⟨⟨-, -, h3, -⟩, -, h6, h7⟩ := h
  have c46 : ∀ {a b c : Nat}, cp_P 0 a b c → 46 ≤ a ∧ a ≤ 57 := by
    intro a b c q
    have hb := q.1
    subst hb
    exact cp_46 q
  have f' : sn_fr (fun a b c => (1 ≤ a ∧ a ≤ 8) ∨ (40 ≤ a ∧ a ≤ 45) ∨ (9 ≤ a ∧ a ≤ 18 ∧ b = 0) ∨ cp_P 0 a b c) (σ.1, σ2.2) σ2 := ⟨rfl, fun a b c hn => f a b c (fun z => hn (Or.inl z)) (fun z => hn (Or.inr (Or.inl z))) (fun z => hn (Or.inr (Or.inr (Or.inl z)))) (fun z => hn (Or.inr (Or.inr (Or.inr z))))⟩
  have h6' : in_s T S1 S1' 1 (σ.1, σ2.2) := h6
  have q2 := in_s_fr h6' f' (fun a c g1 g2 z => by
    rcases z with z | z | z | z
    · omega
    · omega
    · omega
    · have := c46 z; omega) (fun a c g z => by
    rcases z with z | z | z | z
    · have := cp_46 g; omega
    · have := cp_46 g; omega
    · have := cp_46 g; omega
    · exact cp_ab z g)
  refine ⟨⟨v, m, k.1, k.2⟩, ⟨x, y, e, o⟩, ⟨q2.1, q2.2.1, q2.2.2.1, s_ok_T q2.2.2.2 g.1 g.2.1 g.2.2⟩, hF.2 T T' σ2 (hF.1 T σ σ2 h7 (fun a i j g1 g2 => f a i j (by omega) (by omega) (by omega) (fun z => ?_))) h3 g⟩
  have := c46 z
  omega
def hm_ok (S : sT) (m : Int) : Prop := S.2.1 < 60 ∧ cn_ct (S.1 0) (-1) S.2.1 < 24 ∧ (S.2.2.1 : Int) + m ≤ 100
theorem md_room {T : fT} {S S' : sT} {σ : sn_M} (h : my_s T S S' 0 σ) (m : Int) (hm : 0 ≤ m ∧ m ≤ 2) (po : Option sn_V → sn_M → Prop) (h1 : hm_ok S m → po (some (.inl 1)) σ) (h0 : ¬ hm_ok S m → po (some (.inl 0)) σ) : sp_MD_hasRoom [.inr (.inr (40, 0)), .inl m] σ po := by
  obtain ⟨m1, m2, m3⟩ := ms_46 h
  have b2 := h.2.2.1.2.1
  have ct := ms_ct h (-1)
  have i4 : (0 : Int) ≤ 0 ∧ (0 : Int) < (4 : Nat) := by omega
  refine fun G => And.intro i4 (And.intro (fun y => And.intro rfl (And.intro ⟨by omega, ms_ok h (by omega)⟩ ?_)) (fun y => And.intro (Or.inl rfl) (h0 (fun z => ?_))))
  · have y : σ.1 46 0 0 < 60 := y
    have ct : cn_ct (fun l => σ.1 49 0 (60 * (0 : Int).toNat + l)) (-1) (σ.1 46 0 (0 : Int).toNat).toNat = _ := ct
    rw [ct]
    refine And.intro (fun z => And.intro i4 (And.intro ?_ (And.intro (fun w => ?_) (fun w => ?_)))) (fun z => And.intro (Or.inl rfl) (h0 (fun w => absurd w.2.1 (Int.not_lt.mpr z))))
    · show sn_R (σ.1 47 0 0 + m)
      rw [m2]
      unfold sn_R
      omega
    · have w : σ.1 47 0 0 + m ≤ 100 := w
      exact And.intro (Or.inr rfl) (h1 ⟨by omega, z, by omega⟩)
    · have w : 100 < σ.1 47 0 0 + m := w
      exact And.intro (Or.inl rfl) (h0 (fun v => by have := v.2.2; omega))
  · have y : 60 ≤ σ.1 46 0 0 := y
    have := z.1
    omega
theorem hr_hm {S : sT} {k : Int} : hr_ok (s_X S) k ↔ hm_ok S (if k = 0 then 2 else if k = 3 then 0 else 1) ∧ (k = 2 → cn_ct (S.1 0) 2 S.2.1 < 8) := by
  show ((S.2.1 : Int) < 60 ∧ cn_ct (S.1 0) (-1) S.2.1 < 24 ∧ (S.2.2.1 : Int) + (if k = 0 then 2 else if k = 3 then 0 else 1) ≤ 100 ∧ (k = 2 → cn_ct (S.1 0) 2 S.2.1 < 8)) ↔ (S.2.1 < 60 ∧ cn_ct (S.1 0) (-1) S.2.1 < 24 ∧ (S.2.2.1 : Int) + (if k = 0 then 2 else if k = 3 then 0 else 1) ≤ 100) ∧ (k = 2 → cn_ct (S.1 0) 2 S.2.1 < 8)
  constructor
  · rintro ⟨h1, h2, h3, h4⟩
    exact ⟨⟨by omega, h2, h3⟩, h4⟩
  · rintro ⟨⟨h1, h2, h3⟩, h4⟩
    exact ⟨by omega, h2, h3, h4⟩
theorem ms_of {T T' : fT} {S S' : sT} {σ σ2 : sn_M} (h : my_s T S S' 0 σ) (f : ∀ a c, cp_P 0 a 0 c → σ2.1 a 0 c = σ.1 a 0 c) (g : fg T T') : my_s T' S S' 0 σ2 := ⟨my_v_fr (P := fun a b c => ¬ cp_P 0 a b c ∨ b ≠ 0) (σ := (σ.1, σ2.2)) h.1 ⟨rfl, fun a b c hn => by
    have hb : b = 0 := Decidable.byContradiction (fun z => hn (Or.inr z))
    subst hb
    exact f a c (Classical.byContradiction (fun z => hn (Or.inl z)))⟩ (fun a c q z => by
    rcases z with z | z
    · exact z q
    · exact z rfl), h.2.1, s_ok_T h.2.2 g.1 g.2.1 g.2.2⟩
theorem op_axiom {LS : fT → sn_M → Prop} (hF : in_F LS) : lw_O (in_I LS) 5 := by
  refine ⟨_, _, _, _, by decide, by decide, tc_SN_axiom, ct_MD_axiom, fun n σ xs i hI hn hR => ?_⟩
  obtain ⟨T, S0, S0', S1, S1', hv⟩ := hI
  obtain ⟨hfo, hmt, hT, h80⟩ := id hv.1
  obtain ⟨l, has⟩ := lw_a1 xs i
  rw [has]
  refine fun G hG => ?_
  have hok := hv.2.1.2.2.2
  have heq := hv.2.1.2.2.1
  have b2 := hok.1.2.1
  have bad : ¬ fT_in T l → lw_po (in_I LS) sp_MD_axiom n [.inl l] (some (.inl 1)) σ := by
    intro h
    refine ⟨1, rfl, fun _ G2 => ?_⟩
    have hc := in_c hF hv 1
    have g : lw_q (in_I LS) n 1 (some (.inl 0)) (sn_u σ.1 40 0 0 1, σ.2) := lw_q1 0 rfl (by decide) ⟨T, S0, S0', S1, S1', hc⟩
    refine md_isF hmt l _ (fun h1 => absurd h1 h) (fun h1 => ?_)
    refine And.intro (fun _ => ?_) (fun w => absurd rfl w)
    exact And.intro (fun y => absurd (show (1 : Int) ≤ 0 from y) (by decide)) (fun _ => g)
  refine fo_has hfo l _ (fun hl => ?_) (fun hl => And.intro (fun _ => hG 11 1 _ σ rfl (bad hl)) (fun w => absurd rfl w))
  refine And.intro (fun w => absurd w (by decide)) (fun _ => ?_)
  have hl2 : l.toNat < T.2 := by have := hl.1; have := hl.2; omega
  obtain ⟨T', d1, d2, d3⟩ := dl_ex 80 l.toNat T hT hl2 (by omega)
  obtain ⟨e1, e2⟩ := dl_in hl2 d2 d3
  have noroom : ¬ hm_ok S0 2 → lw_po (in_I LS) sp_MD_axiom n [.inl l] (some (.inl 2)) σ := by
    intro h
    refine ⟨2, rfl, fun _ G2 => ?_⟩
    have hc := in_c hF hv 2
    have g : lw_q (in_I LS) n 2 (some (.inl 0)) (sn_u σ.1 40 0 0 2, σ.2) := lw_q1 0 rfl (by decide) ⟨T, S0, S0', S1, S1', hc⟩
    refine md_isF hmt l _ (fun _ => ?_) (fun z => absurd hl z)
    refine And.intro (fun w => absurd w (by decide)) (fun _ => ?_)
    refine md_room (in_sm hv.2.1) 2 (by omega) _ (fun z => absurd z h) (fun _ => ?_)
    refine And.intro (fun _ => ?_) (fun w => absurd rfl w)
    exact And.intro (fun y => absurd (show (2 : Int) ≤ 0 from y) (by decide)) (fun _ => g)
  refine And.intro rfl ⟨s_X S0, hv.2.1.1, (show 0 ≤ (S0.2.2.1 : Int) ∧ (S0.2.2.1 : Int) ≤ 100 by omega), fun hr => ?_, fun hr => And.intro (fun _ => hG 43 2 _ σ rfl (noroom (fun z => hr (hr_hm.mpr ⟨z, fun y => absurd y (by decide)⟩)))) (fun w => absurd rfl w)⟩
  have hr2 : hm_ok S0 2 := (hr_hm.mp hr).1
  refine And.intro (fun w => absurd w (by decide)) (fun _ => ?_)
  refine And.intro rfl ⟨T, T', hfo, hT, h80, hl, d1, fun σ1 hf1 => And.intro (fun h1 => ?_) (fun h1 => ?_)⟩
  · refine And.intro (fun w => absurd w (by decide)) (fun _ => ?_)
    have hfo1 : fo_v T σ1 := fo_v_7 hfo hf1
    refine And.intro rfl ⟨T, T', hfo1, hT, hl, d1, h1, fun σ2 hv2 hf2 => ?_⟩
    have fr : ∀ a b c, ¬ (1 ≤ a ∧ a ≤ 8) → σ2.1 a b c = σ.1 a b c := fun a b c h => (hf2.2 a b c (fun z => h (by omega))).trans (hf1.2 a b c (fun z => h (by omega)))
    have sx2 : sx_v (s_X S0) 0 σ2 := sx_v_fr (P := fun a _ _ => 1 ≤ a ∧ a ≤ 8) (σ := (σ.1, σ2.2)) hv.2.1.1 ⟨rfl, fun a b c h => fr a b c h⟩ (fun a c g1 g2 q => by omega)
    refine And.intro rfl ⟨S0, sx2, hr2.1, (by have := hr2.2.2; omega), fun σ3 hv3 hf3 => ⟨(S0.2.1 : Int), rfl, 0, rfl, fun _ G2 => ?_⟩⟩
    have hv3 : sx_v (s_X (s_ax S0 l (T'.1 3 l.toNat))) 0 σ3 := hv3
    have hf3 : sx_f 0 σ2 σ3 := hf3
    have fr3 : ∀ a b c, ¬ (1 ≤ a ∧ a ≤ 8) → ¬ (9 ≤ a ∧ a ≤ 18 ∧ b = 0) → σ3.1 a b c = σ.1 a b c := fun a b c h h' => (hf3.2 a b c (fun z => h' (by omega))).trans (fr a b c h)
    have fo3 : fo_v T' σ3 := fo_v_fr hv2 hf3 (fun a c g1 g2 q => by omega)
    have hm3 : mt_v T σ3 := mt_v_fr (P := fun a b _ => 1 ≤ a ∧ a ≤ 18) (σ := (σ.1, σ3.2)) hmt ⟨rfl, fun a b c h => fr3 a b c (fun z => h (by omega)) (fun z => h (by omega))⟩ (fun a c g1 g2 q => by omega) (fun q => by omega)
    have ms3 : my_s T S0 S0' 0 σ3 := ms_of (in_sm hv.2.1) (fun a c q => fr3 a 0 c (fun z => by have := cp_46 q; omega) (fun z => by have := cp_46 q; omega)) (fg_rf T)
    refine md_isF (σ := (σ3.1, sn_u σ3.2 65 0 0 (Int32.ofInt (S0.2.1 : Int)).toInt64)) hm3 l _ (fun _ => ?_) (fun z => absurd hl z)
    refine And.intro (fun w => absurd w (by decide)) (fun _ => ?_)
    refine md_room (σ := (σ3.1, sn_u σ3.2 65 0 0 (Int32.ofInt (S0.2.1 : Int)).toInt64)) ms3 2 (by omega) _ (fun _ => ?_) (fun z => absurd hr2 z)
    refine And.intro (fun w => absurd w (by decide)) (fun _ => ?_)
    refine And.intro (fun _ => ?_) (fun w => absurd (show (0 : Int) < 0 from w) (by decide))
    refine And.intro rfl ⟨T, T', mt_c0 (σ := (σ3.1, sn_u σ3.2 65 0 0 (Int32.ofInt (S0.2.1 : Int)).toInt64)) hm3 0, hT, h80, hl, d1, fun _ σ4 hm4 hf4 => ?_, fun w => absurd h1 (by omega)⟩
    refine And.intro (fun w => absurd w (Int.not_lt.mpr e2.1)) (fun _ => ?_)
    have hf4 : mt_f (sn_u σ3.1 40 0 0 0, sn_u σ3.2 65 0 0 (Int32.ofInt (S0.2.1 : Int)).toInt64) σ4 := hf4
    have c3 : my_v S0' 0 (sn_u σ3.1 40 0 0 0, sn_u σ3.2 65 0 0 (Int32.ofInt (S0.2.1 : Int)).toInt64) := my_c0 (σ := (σ3.1, sn_u σ3.2 65 0 0 (Int32.ofInt (S0.2.1 : Int)).toInt64)) ms3.1 0
    have my4 : my_v S0' 0 σ4 := my_v_fr c3 hf4 (fun a c q z => by have := cp_46 q; omega)
    have n1 : S0'.2 = S0.2 := heq.1
    refine And.intro rfl ⟨0, S0', rfl, (by omega), my4, (by rw [n1]; exact hr2.1), (by rw [n1]; have := hr2.2.2; omega), fun σ5 hv5 hf5 => ?_⟩
    have hv5 : my_v (s_ax S0' l (T'.1 3 l.toNat)) 0 σ5 := hv5
    have hf5 : sn_fr (cp_P 0) σ4 σ5 := hf5
    have fr5 : ∀ a b c, ¬ (40 ≤ a ∧ a ≤ 45) → ¬ cp_P 0 a b c → σ5.1 a b c = σ3.1 a b c := by
      intro a b c h h'
      rw [hf5.2 a b c h', hf4.2 a b c (fun z => h (by omega))]
      show sn_u σ3.1 40 0 0 0 a b c = _
      exact sn_u_n (fun z => h (by omega))
    have c46 : ∀ {a b c : Nat}, cp_P 0 a b c → 46 ≤ a ∧ a ≤ 57 := by
      intro a b c q
      have hb := q.1
      subst hb
      exact cp_46 q
    have fo5 : fo_v T' σ5 := fo_v_fr (P := fun a b c => (40 ≤ a ∧ a ≤ 45) ∨ cp_P 0 a b c) (σ := (σ3.1, σ5.2)) fo3 ⟨rfl, fun a b c h => fr5 a b c (fun z => h (Or.inl z)) (fun z => h (Or.inr z))⟩ (fun a c g1 g2 q => by
      rcases q with q | q
      · omega
      · have := c46 q; omega)
    have mt5 : mt_v T' σ5 := mt_v_fr hm4 hf5 (fun a c g1 g2 q => by have := c46 q; omega) (fun q => by have := c46 q; omega)
    have sx5 : sx_v (s_X (s_ax S0 l (T'.1 3 l.toNat))) 0 σ5 := sx_v_fr (P := fun a b c => (40 ≤ a ∧ a ≤ 45) ∨ cp_P 0 a b c) (σ := (σ3.1, σ5.2)) hv3 ⟨rfl, fun a b c h => fr5 a b c (fun z => h (Or.inl z)) (fun z => h (Or.inr z))⟩ (fun a c g1 g2 q => by
      rcases q with q | q
      · omega
      · have := c46 q; omega)
    have hl' : 0 ≤ l ∧ l < (T'.2 : Int) := ⟨hl.1, by have := hl.2; have := e1.1; omega⟩
    have ok5 := s_ax_ok (T := T') (S := S0) (f := l) (d := T'.1 3 l.toNat) (s_ok_T hok e1.1 e1.2.1 e1.2.2) hr2.1 (by have := hr2.2.2; omega) hr2.2.1 hl' e2 rfl
    have c05 : σ5.1 40 0 0 = 0 := by
      rw [hf5.2 40 0 0 (fun q => by have := c46 q; omega), hf4.2 40 0 0 (fun z => by omega)]
      rfl
    refine ⟨(S0'.2.1 : Int), rfl, c05, fun _ => ?_, T', s_ax S0 l (T'.1 3 l.toNat), s_ax S0' l (T'.1 3 l.toNat), S1, S1', in_fin hF hv (fun a b c z1 z2 z3 z4 => (fr5 a b c z2 z4).trans (fr3 a b c z1 z3)) fo5 mt5 ⟨d2.1, h1⟩ e1 sx5 hv5 (s_ax_eq _ _ heq) ok5⟩
    rw [hf5.1, hf4.1, n1]
    show sn_u σ3.2 65 0 0 (Int32.ofInt (S0.2.1 : Int)).toInt64 65 0 0 = _
    exact sn_u_s
  · refine And.intro (fun _ => hG 43 2 _ σ1 rfl ⟨2, rfl, fun _ G2 => ?_⟩) (fun w => absurd rfl w)
    have fr : ∀ a b c, ¬ (1 ≤ a ∧ a ≤ 8) → σ1.1 a b c = σ.1 a b c := fun a b c h => hf1.2 a b c (fun z => h (by omega))
    have hm2 : mt_v T σ1 := mt_v_fr (P := fun a _ _ => 1 ≤ a ∧ a ≤ 8) (σ := (σ.1, σ1.2)) hmt ⟨rfl, fun a b c h => fr a b c h⟩ (fun a c g1 g2 q => by omega) (fun q => by omega)
    have ms1 : my_s T S0 S0' 0 σ1 := ms_of (in_sm hv.2.1) (fun a c q => fr a 0 c (fun z => by have := cp_46 q; omega)) (fg_rf T)
    refine md_isF hm2 l _ (fun _ => ?_) (fun z => absurd hl z)
    refine And.intro (fun w => absurd w (by decide)) (fun _ => ?_)
    refine md_room ms1 2 (by omega) _ (fun _ => ?_) (fun z => absurd hr2 z)
    refine And.intro (fun w => absurd w (by decide)) (fun _ => ?_)
    refine And.intro (fun _ => ?_) (fun w => absurd (show (0 : Int) < 0 from w) (by decide))
    refine And.intro rfl ⟨T, T', mt_c0 hm2 0, hT, h80, hl, d1, fun w => absurd h1 (by omega), fun _ σ3 hm3 hf3 => ?_⟩
    refine And.intro (fun _ => ?_) (fun w => absurd w (by decide))
    have fo1 : fo_v T σ1 := fo_v_7 hfo hf1
    have fo3 : fo_v T σ3 := fo_v_fr (show fo_v T (sn_u σ1.1 40 0 0 0, σ1.2) from fo1) hf3 (fun a c g1 g2 q => by omega)
    exact lw_q1 0 rfl (by decide) ⟨T, S0, S0', S1, S1', in_u4 hF (in_up hF hv (tm_g fr hf3) fo3 hm3 ⟨hT, h80⟩ (fg_rf T)) 2⟩
