/-! clear, conclude, keep, reduce, judge, fault. -/
def my_s (T : fT) (S S' : sT) (i : Nat) (σ : sn_M) : Prop := my_v S' i σ ∧ s_eq S S' ∧ s_ok T S
theorem ms_46 {T : fT} {S S' : sT} {i : Nat} {σ : sn_M} (h : my_s T S S' i σ) : σ.1 46 0 i = (S.2.1 : Int) ∧ σ.1 47 0 i = (S.2.2.1 : Int) ∧ σ.1 48 0 i = (S.2.2.2 : Int) := by
  obtain ⟨⟨-, -, m1, m2, m3⟩, e, -⟩ := h
  rw [e.1] at m1 m2 m3
  exact ⟨m1, m2, m3⟩
theorem ms_l {T : fT} {S S' : sT} {i : Nat} {σ : sn_M} (h : my_s T S S' i σ) {a l k x : Nat} (ha : a < 4) (hl : l < S.2.1) (hk : k = 49 + a) (hx : x = 60 * i + l) : σ.1 k 0 x = S.1 a l := by
  have b1 := h.2.2.1.1
  rw [my_rl h.1 ha (by omega) hk hx]
  exact h.2.1.2.1 a l ha hl
theorem ms_e {T : fT} {S S' : sT} {i : Nat} {σ : sn_M} (h : my_s T S S' i σ) {a e k x : Nat} (ha : 4 ≤ a) (ha8 : a < 8) (he : e < S.2.2.1) (hk : k = 49 + a) (hx : x = 100 * i + e) : σ.1 k 0 x = S.1 a e := by
  have b1 := h.2.2.1.2.1
  rw [my_rg h.1 ha (by omega) (by omega) hk hx]
  exact h.2.1.2.2.1 a e ha ha8 he
theorem ms_ok {T : fT} {S S' : sT} {i : Nat} {σ : sn_M} (h : my_s T S S' i σ) (hi : i < 4) : md_ok σ i := by
  obtain ⟨m1, m2, m3⟩ := ms_46 h
  have b1 := h.2.2.1.1
  have b2 := h.2.2.1.2.1
  exact ⟨hi, by rw [m1]; omega, by rw [m2]; omega⟩
theorem ms_ct {T : fT} {S S' : sT} {i : Nat} {σ : sn_M} (h : my_s T S S' i σ) (k : Int) : cn_ct (fun l => σ.1 49 0 (60 * i + l)) k (σ.1 46 0 i).toNat = cn_ct (S.1 0) k S.2.1 := by
  rw [(ms_46 h).1]
  exact cn_ct_ext k _ (fun l hl => ms_l h (a := 0) (by omega) hl rfl rfl)
theorem ms_E {T : fT} {S S' : sT} {i : Nat} {σ : sn_M} (h : my_s T S S' i σ) (e : Int) : (md_e σ i e ↔ s_al S e) ∧ (md_f σ i e ↔ s_fr S e) := by
  have m := (ms_46 h).2.1
  have hok := h.2.2
  have k4 : ∀ e : Int, 0 ≤ e → e < (S.2.2.1 : Int) → σ.1 53 0 (100 * i + e.toNat) = S.1 4 e.toNat := fun e h1 h2 => ms_e h (a := 4) (by omega) (by omega) (by omega) rfl rfl
  have k6 : ∀ e : Int, 0 ≤ e → e < (S.2.2.1 : Int) → σ.1 55 0 (100 * i + e.toNat) = S.1 6 e.toNat := fun e h1 h2 => ms_e h (a := 6) (by omega) (by omega) (by omega) rfl rfl
  have k7 : ∀ e : Int, 0 ≤ e → e < (S.2.2.1 : Int) → σ.1 56 0 (100 * i + e.toNat) = S.1 7 e.toNat := fun e h1 h2 => ms_e h (a := 7) (by omega) (by omega) (by omega) rfl rfl
  have key : md_e σ i e ↔ s_al S e := by
    unfold md_e s_al
    rw [m]
    constructor
    · rintro ⟨h1, h2, h3⟩
      rw [k4 e h1 h2] at h3
      exact ⟨h1, h2, h3⟩
    · rintro ⟨h1, h2, h3⟩
      exact ⟨h1, h2, by rw [k4 e h1 h2]; exact h3⟩
  refine ⟨key, ?_⟩
  constructor
  · rintro ⟨h1, h2, h3⟩
    have a := key.mp h1
    have w := hok.2.2.1 e.toNat (by have := a.1; have := a.2.1; omega)
    rw [k6 e a.1 a.2.1] at h2
    rw [k7 e a.1 a.2.1] at h3
    have := w.2.1
    have := w.2.2.1
    exact ⟨a, by omega, by omega⟩
  · rintro ⟨a, h2, h3⟩
    exact ⟨key.mpr a, by rw [k6 e a.1 a.2.1]; omega, by rw [k7 e a.1 a.2.1]; omega⟩
def in_w (LS : fT → sn_M → Prop) (T : fT) (S S0' S1 S1' : sT) (σ : sn_M) : Prop := (fo_v T σ ∧ mt_v T σ ∧ fT_ok T ∧ T.2 ≤ 80) ∧ sx_v (s_X S) 0 σ ∧ my_v S0' 0 σ ∧ in_s T S1 S1' 1 σ ∧ LS T σ
theorem in_w_of {LS : fT → sn_M → Prop} (hF : in_F LS) {T : fT} {S S0 S0' S1 S1' : sT} {σ σ1 : sn_M} (h : in_v LS T S0 S0' S1 S1' σ) (f : sx_f 0 σ σ1) (v : sx_v (s_X S) 0 σ1) : in_w LS T S S0' S1 S1' σ1 := by
  obtain ⟨⟨h1, h2, h3, h4⟩, h5, h6, h7⟩ := h
  refine ⟨⟨fo_v_fr h1 f (fun a c g1 g2 q => by have := q.1; omega), mt_v_fr h2 f (fun a c g1 g2 q => by have := q.1; omega) (fun q => by have := q.1; omega), h3, h4⟩, v, my_v_fr h5.2.1 f (fun a c g q => by have := cp_46 g; have := q.1; omega), in_s_fr h6 f (fun a c g1 g2 q => by have := q.2; omega) (fun a c g q => by have := cp_46 g; have := q.1; omega), hF.1 T σ σ1 h7 (fun a i j g1 g2 => f.2 a i j (fun q => by have := q.1; omega))⟩
theorem in_v_of {LS : fT → sn_M → Prop} (hF : in_F LS) {T : fT} {S S' S0' S1 S1' : sT} {σ σ1 : sn_M} (h : in_w LS T S S0' S1 S1' σ) (f : sn_fr (fun a b c => cp_P 0 a b c ∨ in_q a b c) σ σ1) (v : my_v S' 0 σ1) (e : s_eq S S') (ok : s_ok T S) : in_v LS T S S' S1 S1' σ1 := by
  obtain ⟨⟨h1, h2, h3, h4⟩, h5, h6, h7, h8⟩ := h
  have c46 : ∀ {a b c : Nat}, cp_P 0 a b c → 46 ≤ a := by
    intro a b c q
    have hb := q.1
    subst hb
    exact (cp_46 q).1
  refine ⟨⟨fo_v_fr h1 f (fun a c g1 g2 q => ?_), mt_v_fr h2 f (fun a c g1 g2 q => ?_) (fun q => ?_), h3, h4⟩, ⟨sx_v_fr h5 f (fun a c g1 g2 q => ?_), v, e, ok⟩, in_s_fr h7 f (fun a c g1 g2 q => ?_) (fun a c g q => ?_), hF.1 T σ σ1 h8 (fun a i j g1 g2 => f.2 a i j (fun q => ?_))⟩
  · rcases q with q | q
    · have := c46 q; omega
    · exact q.1 ⟨g1, g2⟩
  · rcases q with q | q
    · have := c46 q; omega
    · exact q.2.2.2.1 ⟨g1, g2⟩
  · rcases q with q | q
    · have := c46 q; omega
    · exact q.2.2.2.2.1 ⟨rfl, rfl⟩
  · rcases q with q | q
    · have := c46 q; omega
    · exact q.2.1 ⟨g1, g2, by omega⟩
  · rcases q with q | q
    · have := c46 q; omega
    · exact q.2.1 ⟨g1, g2, by omega⟩
  · rcases q with q | q
    · exact cp_ab q g
    · exact q.2.2.2.2.2 (cp_46 g)
  · rcases q with q | q
    · have := c46 q; omega
    · exact q.2.2.1 ⟨g1, g2⟩
/-- the reference's code number is set -/
theorem q_40 : in_q 40 0 0 := ⟨by omega, by omega, by omega, by omega, by omega, by omega⟩
theorem fr_c (σ : sn_M) (v : Int) : sn_fr (fun a b c => cp_P 0 a b c ∨ in_q a b c) σ (sn_u σ.1 40 0 0 v, σ.2) := sn_fr_u (sn_fr_rf _ σ) (Or.inr q_40) v
theorem fr_p {σ σ' : sn_M} (f : sn_fr (cp_P 0) σ σ') : sn_fr (fun a b c => cp_P 0 a b c ∨ in_q a b c) σ σ' := sn_fr_w f (fun _ _ _ q => Or.inl q)
theorem my_c0 {S : sT} {i : Nat} {σ : sn_M} (h : my_v S i σ) (v : Int) : my_v S i (sn_u σ.1 40 0 0 v, σ.2) := my_v_fr (P := in_q) h (sn_fr_u (sn_fr_rf _ σ) q_40 v) (fun a c g q => q.2.2.2.2.2 (cp_46 g))
theorem op_clear {LS : fT → sn_M → Prop} (hF : in_F LS) : lw_O (in_I LS) 4 := by
  refine ⟨_, _, _, _, by decide, by decide, ct_SN_clear, ct_MD_clear, fun n σ xs i hI hn hR => ?_⟩
  obtain ⟨T, S0, S0', S1, S1', hv⟩ := hI
  have e11 : σ.1 9 0 11 = cn_ct (S0.1 0) (-1) S0.2.1 := sx_9 hv.2.1.1 (by omega)
  refine fun G => And.intro rfl ⟨s_X S0, hv.2.1.1, fun σ1 v1 f1 => ⟨_, rfl, fun _ => fun G2 => ?_⟩⟩
  have vx : sx_v (s_X (s_0 S0)) 0 σ1 := sx_e v1 ⟨rfl, rfl, rfl, rfl, rfl, rfl, rfl, rfl, rfl⟩ ⟨rfl, rfl, rfl, rfl, rfl, rfl⟩
  have hw := in_w_of hF hv f1 vx
  have vc := my_c0 hw.2.2.1 0
  have ms : my_s T S0 S0' 0 (sn_u σ1.1 40 0 0 0, σ1.2) := ⟨vc, hv.2.1.2.2⟩
  refine And.intro rfl (And.intro ⟨by omega, ms_ok ms (by omega)⟩ ?_)
  refine And.intro rfl ⟨0, S0', rfl, by omega, vc, fun σ2 v2 f2 => ?_⟩
  refine ⟨?_, T, s_0 S0, s_0 S0', S1, S1', in_v_of hF hw (sn_fr_t (fr_c σ1 0) (fr_p f2)) v2 s_0_eq (s_0_ok T S0)⟩
  show some (Sum.inl (cn_ct (fun l => (sn_u σ1.1 40 0 0 0) 49 0 (60 * 0 + l)) (-1) ((sn_u σ1.1 40 0 0 0) 46 0 0).toNat)) = some (Sum.inl (σ.1 9 0 11))
  rw [e11, ms_ct ms (-1)]
theorem op_conclude {LS : fT → sn_M → Prop} (hF : in_F LS) : lw_O (in_I LS) 8 := by
  refine ⟨_, _, _, _, by decide, by decide, ct_SN_conclude, ct_MD_conclude, fun n σ xs i hI hn hR => ?_⟩
  obtain ⟨T, S0, S0', S1, S1', hv⟩ := hI
  have b2 := hv.2.1.2.2.2.1.2.1
  have e10 : σ.1 9 0 10 = (S0.2.2.1 : Int) := sx_9 hv.2.1.1 (by omega)
  generalize hx : (xs (i + 1 + 0)).toInt = e
  have has : lw_as xs i 1 = [.inl e] := by rw [← hx]; rfl
  rw [has]
  refine fun G => And.intro rfl (And.intro (show σ.1 9 0 10 ≤ 100 by rw [e10]; omega) ?_)
  show ((if cs_f σ 0 e then (1 : Int) else 0) = 0 → _) ∧ (¬ (if cs_f σ 0 e then (1 : Int) else 0) = 0 → _)
  by_cases hf : s_fr S0 e
  · rw [if_pos ((in_csE hv.2.1 e).2.mpr hf)]
    refine And.intro (fun z => by omega) (fun _ => ?_)
    obtain ⟨ok, hlt⟩ := s_nm_ok hv.2.1.2.2.2 hf
    have he : 0 ≤ e ∧ e < 100 := by have := hf.1.1; have := hf.1.2.1; omega
    refine And.intro rfl ⟨s_X S0, hv.2.1.1, (show 0 ≤ (S0.2.2.2 : Int) ∧ (S0.2.2.2 : Int) < 100 by omega), he, fun σ1 v1 f1 => ⟨_, rfl, fun _ => fun G2 => ?_⟩⟩
    have vx : sx_v (s_X (s_nm S0 e)) 0 σ1 := sx_e v1 ⟨rfl, rfl, rfl, rfl, rfl, rfl, rfl, rfl, rfl⟩ ⟨rfl, rfl, rfl, rfl, rfl, rfl⟩
    have hw := in_w_of hF hv f1 vx
    have vc := my_c0 hw.2.2.1 0
    have ms : my_s T S0 S0' 0 (sn_u σ1.1 40 0 0 0, σ1.2) := ⟨vc, hv.2.1.2.2⟩
    refine And.intro rfl (And.intro ⟨by omega, ms_ok ms (by omega)⟩ ?_)
    show ((if md_f (sn_u σ1.1 40 0 0 0, σ1.2) 0 e then (1 : Int) else 0) = 0 → _) ∧ (¬ (if md_f (sn_u σ1.1 40 0 0 0, σ1.2) 0 e then (1 : Int) else 0) = 0 → _)
    rw [if_pos ((ms_E ms e).2.mpr hf)]
    refine And.intro (fun z => by omega) (fun _ => ?_)
    have eq1 := hv.2.1.2.2.1
    have n1 : S0'.2.2.2 = S0.2.2.2 := by rw [eq1.1]
    refine And.intro rfl ⟨0, S0', rfl, by omega, vc, (by omega), he, fun σ2 v2 f2 => ?_⟩
    have m48 : σ2.1 48 0 0 = ((S0'.2.2.2 + 1 : Nat) : Int) := v2.2.2.2.2
    refine And.intro (show (0 : Int) ≤ 0 ∧ (0 : Int) < (4 : Nat) by omega) (And.intro (show sn_R (σ2.1 48 0 0 - 1) by rw [m48]; unfold sn_R; omega) ?_)
    refine ⟨?_, T, s_nm S0 e, s_nm S0' e, S1, S1', in_v_of hF hw (sn_fr_t (fr_c σ1 0) (fr_p f2)) v2 (s_nm_eq e eq1) ok⟩
    show some (Sum.inl (σ2.1 48 0 0 - 1)) = some (Sum.inl (S0.2.2.2 : Int))
    rw [m48, n1]
    congr 2
    omega
  · rw [if_neg (fun z => hf ((in_csE hv.2.1 e).2.mp z))]
    refine And.intro (fun _ => ⟨_, rfl, fun _ => fun G2 => ?_⟩) (fun z => absurd rfl z)
    have hc := in_c hF hv 0
    refine And.intro rfl (And.intro ⟨by omega, in_ok hc.2.1 (by omega)⟩ ?_)
    show ((if md_f (sn_u σ.1 40 0 0 0, σ.2) 0 e then (1 : Int) else 0) = 0 → _) ∧ (¬ (if md_f (sn_u σ.1 40 0 0 0, σ.2) 0 e then (1 : Int) else 0) = 0 → _)
    rw [if_neg (fun z => hf ((in_mdE hc.2.1 e).2.mp z))]
    exact And.intro (fun _ => And.intro rfl ⟨T, S0, S0', S1, S1', hc⟩) (fun z => absurd rfl z)
theorem op_reduce {LS : fT → sn_M → Prop} (hF : in_F LS) : lw_O (in_I LS) 16 := by
  refine ⟨_, _, _, _, by decide, by decide, ct_SN_reduce, ct_MD_reduce, fun n σ xs i hI hn hR => ?_⟩
  obtain ⟨T, S0, S0', S1, S1', hv⟩ := hI
  have b1 := hv.2.1.2.2.2.1.1
  have e9 : σ.1 9 0 9 = (S0.2.1 : Int) := sx_9 hv.2.1.1 (by omega)
  have r0 : σ.1 10 0 = S0.1 0 := hv.2.1.1.1 0 (by omega)
  have hT := hv.1.2.2.1
  have hok := hv.2.1.2.2.2
  have heq := hv.2.1.2.2.1
  generalize hx : (xs (i + 1 + 0)).toInt = c
  have has : lw_as xs i 1 = [.inl c] := by rw [← hx]; rfl
  rw [has]
  refine fun G => And.intro rfl (And.intro (show 0 ≤ σ.1 9 0 9 ∧ σ.1 9 0 9 ≤ 60 by rw [e9]; omega) (fun x hx => ?_))
  have hx : ca_is (σ.1 10 0) (σ.1 9 0 9).toNat c x := hx
  rw [e9, r0] at hx
  have hx : ca_is (S0.1 0) S0.2.1 c x := hx
  have hx' : ca_is (S0'.1 0) S0'.2.1 c x := by
    rw [heq.1]
    exact ca_ext (fun l hl => (heq.2.1 0 l (by omega) hl).symm) hx
  have fin0 : ∀ (σ0 : sn_M), in_v LS T S0 S0' S1 S1' σ0 → (x < 0 ∨ (0 ≤ x ∧ s_rd S0' x.toNat = none)) → sp_MD_reduce [.inr (.inr (40, 0)), .inl c] σ0 (fun r' σ2 => r' = some (.inl 0) ∧ in_I LS (n + 1) σ2) := by
    intro σ0 hv0 hno G2
    have hc := in_c hF hv0 0
    refine And.intro rfl ⟨T, S0', hc.2.1.2.1, s_eq_ok hok heq, fun y hy => ?_⟩
    have hyx := ca_uniq hy hx'
    subst hyx
    refine ⟨fun _ => And.intro (Or.inl rfl) ⟨rfl, T, S0, S0', S1, S1', hc⟩, fun y0 => ⟨fun _ => And.intro (Or.inl rfl) ⟨rfl, T, S0, S0', S1, S1', hc⟩, fun S' hS' => ?_⟩⟩
    rcases hno with h | ⟨-, h⟩
    · omega
    · rw [h] at hS'
      cases hS'
  refine And.intro (fun z => And.intro (Or.inl rfl) ⟨_, rfl, fun _ => fin0 σ hv (Or.inl (by have z : x = -1 := z; omega))⟩) (fun z => ?_)
  have z : ¬ x = -1 := z
  obtain ⟨l, hl, rfl, hk, -⟩ : ∃ l : Nat, l < S0.2.1 ∧ x = (l : Int) ∧ S0.1 0 l = 3 ∧ cn_ct (S0.1 0) 3 l = c := by
    rcases hx with y | ⟨rfl, -⟩
    · exact y
    · exact absurd rfl z
  obtain ⟨q1, q2⟩ := s_rd_eq hok heq hl hk
  refine And.intro rfl ⟨T, S0, hv.2.1.1, hT, hok, by omega, hk, fun hn0 => ?_, fun S' hS' σ1 v1 f1 => ?_⟩
  · refine And.intro (fun _ => And.intro (Or.inl rfl) ⟨_, rfl, fun _ => fin0 σ hv (Or.inr ⟨by omega, q1 hn0⟩)⟩) (fun y => absurd rfl y)
  · refine And.intro (fun y => by have y : (1 : Int) = 0 := y; omega) (fun _ => And.intro (Or.inr rfl) ⟨_, rfl, fun _ => fun G2 => ?_⟩)
    obtain ⟨S2, hS2, e2⟩ := q2 S' hS'
    have hw := in_w_of hF hv f1 v1
    have vc := my_c0 hw.2.2.1 0
    refine And.intro rfl ⟨T, S0', vc, s_eq_ok hok heq, fun y hy => ?_⟩
    have hyx := ca_uniq hy hx'
    subst hyx
    refine ⟨fun y => by omega, fun _ => ⟨fun hn0 => ?_, fun S3 hS3 σ2 v2 f2 => ?_⟩⟩
    · have hn0 : s_rd S0' l = none := hn0
      rw [hS2] at hn0
      cases hn0
    · have hS3 : s_rd S0' l = some S3 := hS3
      rw [hS2] at hS3
      cases hS3
      exact And.intro (Or.inr rfl) ⟨rfl, T, S', S2, S1, S1', in_v_of hF hw (sn_fr_t (fr_c σ1 0) (fr_p f2)) v2 e2 (s_rd_ok hT hok hl hk hS')⟩
