/-! The verdict as a matter of the structure alone; judge, fault, keep. -/
theorem cs_same {X : sX} {i j : Nat} {σ σ' : sn_M} (h : sx_v X i σ) (g : sx_v X j σ') : (cs_v σ i = cs_v σ' j ∧ cs_fa σ i = cs_fa σ' j ∧ (cs_cp σ i ↔ cs_cp σ' j)) ∧ (st_in σ i ↔ st_in σ' j) ∧ σ.1 9 i 10 = σ'.1 9 j 10 := by
  have r : ∀ a, a < 9 → σ.1 (10 + a) i = σ'.1 (10 + a) j := fun a ha => (h.1 a ha).trans (g.1 a ha).symm
  have s : ∀ t, 9 ≤ t → t ≤ 14 → σ.1 9 i t = σ'.1 9 j t := fun t h1 h2 => (h.2 t h1 h2).trans (g.2 t h1 h2).symm
  have r0 : σ.1 10 i = σ'.1 10 j := r 0 (by omega)
  have r1 : σ.1 11 i = σ'.1 11 j := r 1 (by omega)
  have r2 : σ.1 12 i = σ'.1 12 j := r 2 (by omega)
  have r4 : σ.1 14 i = σ'.1 14 j := r 4 (by omega)
  have r5 : σ.1 15 i = σ'.1 15 j := r 5 (by omega)
  have r6 : σ.1 16 i = σ'.1 16 j := r 6 (by omega)
  have r7 : σ.1 17 i = σ'.1 17 j := r 7 (by omega)
  have s9 := s 9 (by omega) (by omega)
  have s10 := s 10 (by omega) (by omega)
  have s11 := s 11 (by omega) (by omega)
  have s12 := s 12 (by omega) (by omega)
  have hp : cs_pars σ i = cs_pars σ' j := by unfold cs_pars; rw [r0, s9]
  have hQ : ∀ (t : Int) (d : Nat), cs_Q σ i t d = cs_Q σ' j t d := by
    intro t d
    induction d with
    | zero =>
      show cs_B (σ.1 10 i) (σ.1 11 i) (σ.1 12 i) (σ.1 15 i) (σ.1 9 i 9).toNat = cs_B (σ'.1 10 j) (σ'.1 11 j) (σ'.1 12 j) (σ'.1 15 j) (σ'.1 9 j 9).toNat
      rw [r0, r1, r2, r5, s9]
    | succ d ih =>
      rw [cs_Q_s, cs_Q_s, ih, hp]
      unfold cs_x cs_w
      rw [r1, r2, r5]
  have hg : cs_g σ i = cs_g σ' j := by
    funext t
    unfold cs_g
    rw [hQ, hp, s11]
  have ha : cs_all σ i = cs_all σ' j := by unfold cs_all; rw [hp]
  have hf : ∀ e, cs_f σ i e ↔ cs_f σ' j e := by
    intro e
    unfold cs_f cs_e
    rw [r4, r6, r7, s10]
  refine ⟨⟨by unfold cs_v; rw [hg, ha], by unfold cs_fa; rw [hg, ha], ?_⟩, ?_, s10⟩
  · unfold cs_cp
    rw [s11, s10]
    exact and_congr_right (fun _ => forall_congr' (fun e => forall_congr' (fun _ => not_congr (hf _))))
  · unfold st_in
    rw [r0, r1, r2, r5, s9, s11, s12]
/-- a structure alone, as the class keeps it and as the reference does -/
def s_st (S : sT) : sn_M := (fun a _ j => if a = 9 then (s_X S).2 j else if a ≤ 18 then S.1 (a - 10) j else if a = 46 then (S.2.1 : Int) else if a = 47 then (S.2.2.1 : Int) else if a = 48 then (S.2.2.2 : Int) else S.1 (a - 49) j, fun _ _ _ => 0)
theorem s_st_x (S : sT) : sx_v (s_X S) 0 (s_st S) := by
  refine ⟨fun a ha => ?_, fun j h1 h2 => rfl⟩
  funext c
  show (if 10 + a = 9 then (s_X S).2 c else if 10 + a ≤ 18 then S.1 (10 + a - 10) c else _) = _
  rw [if_neg (by omega), if_pos (by omega), show 10 + a - 10 = a by omega]
  rfl
theorem s_st_m (S : sT) : my_v S 0 (s_st S) := by
  refine ⟨fun a l ha hl => ?_, fun a e h1 h2 he => ?_, rfl, rfl, rfl⟩
  · show (if 49 + a = 9 then (s_X S).2 (60 * 0 + l) else if 49 + a ≤ 18 then S.1 (49 + a - 10) (60 * 0 + l) else if 49 + a = 46 then (S.2.1 : Int) else if 49 + a = 47 then (S.2.2.1 : Int) else if 49 + a = 48 then (S.2.2.2 : Int) else S.1 (49 + a - 49) (60 * 0 + l)) = _
    rw [if_neg (by omega), if_neg (by omega), if_neg (by omega), if_neg (by omega), if_neg (by omega), show 49 + a - 49 = a by omega, show 60 * 0 + l = l by omega]
  · show (if 49 + a = 9 then (s_X S).2 (100 * 0 + e) else if 49 + a ≤ 18 then S.1 (49 + a - 10) (100 * 0 + e) else if 49 + a = 46 then (S.2.1 : Int) else if 49 + a = 47 then (S.2.2.1 : Int) else if 49 + a = 48 then (S.2.2.2 : Int) else S.1 (49 + a - 49) (100 * 0 + e)) = _
    rw [if_neg (by omega), if_neg (by omega), if_neg (by omega), if_neg (by omega), if_neg (by omega), show 49 + a - 49 = a by omega, show 100 * 0 + e = e by omega]
theorem s_st_i {T : fT} {S : sT} (h : s_ok T S) : in_s T S S 0 (s_st S) := ⟨s_st_x S, s_st_m S, s_eq_rf S, h⟩
/-- the verdict and the faulty switching -/
def s_V (S : sT) (v f : Int) : Prop := (cs_cp (s_st S) 0 ∧ v = cs_v (s_st S) 0 ∧ f = cs_fa (s_st S) 0) ∨ (¬ cs_cp (s_st S) 0 ∧ v = 3 ∧ f = -1)
theorem s_V_u {S : sT} {v f v' f' : Int} (h : s_V S v f) (g : s_V S v' f') : v = v' ∧ f = f' := by
  rcases h with ⟨h1, h2, h3⟩ | ⟨h1, h2, h3⟩ <;> rcases g with ⟨g1, g2, g3⟩ | ⟨g1, g2, g3⟩
  · exact ⟨h2.trans g2.symm, h3.trans g3.symm⟩
  · exact absurd h1 g1
  · exact absurd g1 h1
  · exact ⟨h2.trans g2.symm, h3.trans g3.symm⟩
theorem cl_w1 {T : fT} {S : sT} {σ : sn_M} {i : Nat} (hx : sx_v (s_X S) i σ) (hok : s_ok T S) : st_in σ i ∧ (0 ≤ σ.1 9 i 10 ∧ σ.1 9 i 10 ≤ 100) := by
  obtain ⟨-, q4, q5⟩ := cs_same hx (s_st_x S)
  obtain ⟨-, -, j1, -, j2, -⟩ := in_jd (s_st_i hok) (by omega)
  exact ⟨q4.mpr j1, by rw [q5]; exact j2⟩
theorem cl_w2 {S : sT} {σ : sn_M} {i : Nat} (hx : sx_v (s_X S) i σ) {v f : Int} (hv : (cs_cp σ i ∧ v = cs_v σ i ∧ f = cs_fa σ i) ∨ (¬ cs_cp σ i ∧ v = 3 ∧ f = -1)) : s_V S v f := by
  obtain ⟨⟨q1, q2, q3⟩, -, -⟩ := cs_same hx (s_st_x S)
  rcases hv with ⟨h1, h2, h3⟩ | ⟨h1, h2, h3⟩
  · exact Or.inl ⟨q3.mp h1, h2.trans q1, h3.trans q2⟩
  · exact Or.inr ⟨fun z => h1 (q3.mpr z), h2, h3⟩
def s_lay (σ : sn_M) (S : sT) (i : Nat) : sn_M := (fun a b c => if 9 ≤ a ∧ a ≤ 18 ∧ b = i then (if a = 9 then (s_X S).2 c else S.1 (a - 10) c) else σ.1 a b c, σ.2)
theorem s_lay_o {σ : sn_M} {S : sT} {i a b c : Nat} (h : ¬ (9 ≤ a ∧ a ≤ 18)) : (s_lay σ S i).1 a b c = σ.1 a b c := by
  show (if 9 ≤ a ∧ a ≤ 18 ∧ b = i then _ else _) = _
  rw [if_neg (fun z => h ⟨z.1, z.2.1⟩)]
theorem s_lay_x (σ : sn_M) (S : sT) (i : Nat) : sx_v (s_X S) i (s_lay σ S i) := by
  refine ⟨fun a ha => ?_, fun j h1 h2 => ?_⟩
  · funext c
    show (if 9 ≤ 10 + a ∧ 10 + a ≤ 18 ∧ i = i then (if 10 + a = 9 then (s_X S).2 c else S.1 (10 + a - 10) c) else _) = _
    rw [if_pos ⟨by omega, by omega, rfl⟩, if_neg (by omega), show 10 + a - 10 = a by omega]
    rfl
  · show (if 9 ≤ 9 ∧ 9 ≤ 18 ∧ i = i then (if 9 = 9 then (s_X S).2 j else S.1 (9 - 10) j) else _) = _
    rw [if_pos ⟨by omega, by omega, rfl⟩, if_pos rfl]
theorem md_lay {T : fT} {S S' : sT} {i : Nat} {σ : sn_M} (h : my_s T S S' i σ) : in_s T S S' i (s_lay σ S i) := by
  refine ⟨s_lay_x σ S i, my_v_fr (P := fun a _ _ => 9 ≤ a ∧ a ≤ 18) h.1 ⟨rfl, fun a b c hn => s_lay_o hn⟩ (fun a c g q => ?_), h.2⟩
  have := (cp_46 g).1
  omega
theorem md_judge {T : fT} {S S' : sT} {σ : sn_M} {i : Nat} (h : my_s T S S' i σ) (hi : i < 4) : (gr_in σ i ∧ cn_ct (fun l => σ.1 49 0 (60 * i + l)) 2 (σ.1 46 0 i).toNat ≤ 8) ∧ ∀ {v f : Int}, (md_cp σ i ∧ v = md_v σ i ∧ f = md_fa σ i) ∨ (¬ md_cp σ i ∧ v = 3 ∧ f = -1) → s_V S v f := by
  have hl := md_lay h
  obtain ⟨c1, ⟨c2, c3⟩, -, c4, -, c5⟩ := in_jd hl hi
  obtain ⟨m1, m2, m3⟩ := md_fr (σ := σ) (σ' := s_lay σ S i) (b := i) (fun a c h1 h2 => s_lay_o (by omega))
  obtain ⟨⟨q1, q2, q3⟩, -, -⟩ := cs_same hl.1 (s_st_x S)
  have o : ∀ a c, 18 < a → (s_lay σ S i).1 a 0 c = σ.1 a 0 c := fun a c ha => s_lay_o (by omega)
  have o46 := o 46 i (by omega)
  have o47 := o 47 i (by omega)
  have g : gr_in σ i := by
    refine ⟨ms_ok h hi, fun e he => ?_, fun t ht => ?_⟩
    · have := c4.2.1 e (by rw [o47]; exact he)
      rw [o 54 _ (by omega), o 55 _ (by omega), o46] at this
      exact this
    · have := c4.2.2 t (by rw [o46]; exact ht)
      rw [show (fun l => (s_lay σ S i).1 49 0 (60 * i + l)) = fun l => σ.1 49 0 (60 * i + l) from funext (fun l => o 49 _ (by omega))] at this
      exact this
  have g5 : cn_ct (fun l => σ.1 49 0 (60 * i + l)) 2 (σ.1 46 0 i).toNat ≤ 8 := by
    rw [o46, show (fun l => (s_lay σ S i).1 49 0 (60 * i + l)) = fun l => σ.1 49 0 (60 * i + l) from funext (fun l => o 49 _ (by omega))] at c5
    exact c5
  refine ⟨⟨g, g5⟩, fun {v f} hv => ?_⟩
  rw [← m1, ← m2, ← m3, ← c2, ← c3, ← c1] at hv
  rcases hv with ⟨h1, h2, h3⟩ | ⟨h1, h2, h3⟩
  · exact Or.inl ⟨q3.mp h1, h2.trans q1, h3.trans q2⟩
  · exact Or.inr ⟨fun z => h1 (q3.mpr z), h2, h3⟩
theorem sw_q {w a b c : Nat} (h : sw_R w a b c) : in_q a b c := by
  rcases h with z | z | z | z | z <;> exact ⟨by omega, by omega, by omega, by omega, by omega, by omega⟩
theorem jd_q (σ : sn_M) (v f : Int) (p : Nat → Int) : sn_fr in_q σ (sn_ov (sn_ov σ 40 0 (sn_up (sn_up (σ.1 40 0) 19 v) 20 f)) 58 0 p) := by
  refine ⟨rfl, fun a b c hn => ?_⟩
  rw [sn_ov_n (fun z => hn ⟨by omega, by omega, by omega, by omega, by omega, by omega⟩)]
  by_cases e : a = 40 ∧ b = 0
  · obtain ⟨rfl, rfl⟩ := e
    rw [sn_ov_s]
    by_cases e1 : c = 1
    · subst e1
      rfl
    · exact absurd ⟨by omega, by omega, by omega, by omega, by omega, by omega⟩ hn
  · exact sn_ov_n e
theorem in_sm {T : fT} {S S' : sT} {i : Nat} {σ : sn_M} (h : in_s T S S' i σ) : my_s T S S' i σ := h.2
theorem op_judge {LS : fT → sn_M → Prop} (hF : in_F LS) : lw_O (in_I LS) 13 := by
  refine ⟨_, _, _, _, by decide, by decide, ct_SN_judge, ct_MD_judge, fun n σ xs i hI hn hR => ?_⟩
  obtain ⟨T, S0, S0', S1, S1', hv⟩ := hI
  obtain ⟨w1, w2⟩ := cl_w1 hv.2.1.1 hv.2.1.2.2.2
  refine fun G => And.intro rfl (And.intro rfl (And.intro w1 (And.intro w2 (fun v f σ1 h1 h2 f1 => ⟨v, rfl, fun _ => fun G2 => ?_⟩))))
  have h1 := cl_w2 hv.2.1.1 h1
  have hc := in_c hF (in_v_q hF hv (sn_fr_w f1 (fun a b c q => sw_q q))) 0
  obtain ⟨j1, j2⟩ := md_judge (in_sm hc.2.1) (by omega)
  refine And.intro rfl (And.intro ⟨by omega, j1⟩ (fun v' f' p h' => ?_))
  obtain ⟨rfl, rfl⟩ := s_V_u h1 (j2 h')
  exact ⟨rfl, T, S0, S0', S1, S1', in_v_q hF hc (jd_q _ v f p)⟩
theorem op_fault {LS : fT → sn_M → Prop} (hF : in_F LS) : lw_O (in_I LS) 14 := by
  refine ⟨_, _, _, _, by decide, by decide, ct_SN_fault, ct_MD_fault, fun n σ xs i hI hn hR => ?_⟩
  obtain ⟨T, S0, S0', S1, S1', hv⟩ := hI
  obtain ⟨w1, w2⟩ := cl_w1 hv.2.1.1 hv.2.1.2.2.2
  refine fun G => And.intro rfl (And.intro rfl (And.intro w1 (And.intro w2 (fun v f σ1 h1 h2 f1 => ⟨f, congrArg (fun x => some (Sum.inl x)) h2, fun _ => fun G2 => ?_⟩))))
  have h1 := cl_w2 hv.2.1.1 h1
  have hc := in_c hF (in_v_q hF hv (sn_fr_w f1 (fun a b c q => sw_q q))) 0
  obtain ⟨j1, j2⟩ := md_judge (in_sm hc.2.1) (by omega)
  refine And.intro rfl (And.intro ⟨by omega, j1⟩ (fun v' f' p h' => ?_))
  obtain ⟨rfl, rfl⟩ := s_V_u h1 (j2 h')
  exact ⟨rfl, T, S0, S0', S1, S1', in_v_q hF hc (jd_q _ v f p)⟩
theorem my_cp {S : sT} {f t : Nat} {σ σ' : sn_M} (h : my_v S f σ) (c : cp_ok σ σ' f t) : my_v S t σ' := by
  obtain ⟨⟨c1, c2, c3⟩, c4, c5, -⟩ := c
  obtain ⟨h1, h2, h3, h4, h5⟩ := h
  exact ⟨fun a l ha hl => (c4 (49 + a) l (by omega) (by omega) hl).trans (h1 a l ha hl), fun a e g1 g2 he => (c5 (49 + a) e (by omega) (by omega) he).trans (h2 a e g1 g2 he), c1.trans h3, c2.trans h4, c3.trans h5⟩
theorem op_keep {LS : fT → sn_M → Prop} (hF : in_F LS) : lw_O (in_I LS) 18 := by
  refine ⟨_, _, _, _, by decide, by decide, ct_SN_keep, ct_MD_keep, fun n σ hI hn hR => ?_⟩
  obtain ⟨T, S0, S0', S1, S1', hv⟩ := hI
  have b := hv.2.1.2.2.2.1
  refine fun G => And.intro rfl (And.intro rfl (And.intro (show (1 : Nat) ≠ 0 by omega) ⟨S0, hv.2.1.1, b, fun S2 σ1 e2 v2 f2 => ⟨rfl, fun _ => fun G2 => ?_⟩⟩))
  obtain ⟨⟨h1, h2, h3, h4⟩, h5, h6, h7⟩ := hv
  have v2 : sx_v (s_X S2) 1 σ1 := v2
  have f2 : sx_f 1 σ σ1 := f2
  refine And.intro rfl (And.intro ⟨by omega, by omega, by omega, by omega, by omega⟩ (fun σ2 hc => ⟨rfl, T, S0, S0', S2, S0', ?_⟩))
  have hc : cp_ok (sn_u σ1.1 40 0 0 0, σ1.2) σ2 0 1 := hc
  have m0 : my_v S0' 0 (sn_u σ1.1 40 0 0 0, σ1.2) := my_c0 (my_v_fr h5.2.1 f2 (fun a c g q => by have := cp_46 g; have := q.1; omega)) 0
  have fr : sn_fr (fun a b c => ((9 ≤ a ∧ a ≤ 18) ∧ b = 1) ∨ (a = 40 ∧ b = 0 ∧ c = 0) ∨ cp_P 1 a b c) σ σ2 := sn_fr_t (sn_fr_w f2 (fun a b c q => Or.inl q)) (sn_fr_t (sn_fr_u (sn_fr_rf _ σ1) (Or.inr (Or.inl ⟨rfl, rfl, rfl⟩)) 0) (sn_fr_w hc.2.2.2 (fun a b c q => Or.inr (Or.inr q))))
  have c46 : ∀ {a b c : Nat}, cp_P 1 a b c → 46 ≤ a ∧ a ≤ 57 := by
    intro a b c q
    have hb := q.1
    subst hb
    exact cp_46 q
  refine ⟨⟨fo_v_fr h1 fr (fun a c g1 g2 q => ?_), mt_v_fr h2 fr (fun a c g1 g2 q => ?_) (fun q => ?_), h3, h4⟩, ⟨sx_v_fr h5.1 fr (fun a c g1 g2 q => ?_), my_v_fr h5.2.1 fr (fun a c g q => ?_), h5.2.2⟩, ⟨sx_v_fr v2 (sn_fr_t (sn_fr_u (P := fun a b c => (a = 40 ∧ b = 0 ∧ c = 0) ∨ cp_P 1 a b c) (sn_fr_rf _ σ1) (Or.inl ⟨rfl, rfl, rfl⟩) 0) (sn_fr_w hc.2.2.2 (fun a b c q => Or.inr q))) (fun a c g1 g2 q => ?_), my_cp m0 hc, s_eq_t (s_eq_sy e2) h5.2.2.1, s_eq_ok h5.2.2.2 e2⟩, hF.1 T σ σ2 h7 (fun a i j g1 g2 => fr.2 a i j (fun q => ?_))⟩
  · rcases q with q | q | q
    · omega
    · omega
    · have := c46 q; omega
  · rcases q with q | q | q
    · omega
    · omega
    · have := c46 q; omega
  · rcases q with q | q | q
    · omega
    · omega
    · have := c46 q; omega
  · rcases q with q | q | q
    · omega
    · omega
    · have := c46 q; omega
  · rcases q with q | q | q
    · have := cp_46 g; omega
    · have := cp_46 g; omega
    · exact cp_ab g q
  · rcases q with q | q
    · omega
    · have := c46 q; omega
  · rcases q with q | q | q
    · omega
    · omega
    · have := c46 q; omega
