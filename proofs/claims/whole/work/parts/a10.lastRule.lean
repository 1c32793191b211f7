/-! The class: lowest, splitting, the last rule of a piece. -/
def ca_PR_isLowest : List (Nat × Nat × Nat × sn_P) := [(65, 2, 0, sp_PR_isIn)]
theorem co_PR_isLowest : ∀ x n ci s', sn_lk ca_PR_isLowest x = some (n, ci, s') → sn_CO "SwitchedNets$Proof" sn_ws 1 x n ci s' := sn_co_of (List.forall_mem_cons.mpr ⟨sn_CO_S ct_PR_isIn (by decide) (by decide) (sn_gS ml_PR_65 mt_PR_isIn mz_PR mc_PR_isIn) ⟨nh_PR.1, nh_PR.2, pn_PR_isIn⟩, fun _ h => absurd h List.not_mem_nil⟩)
def sp_PR_isLowest : sn_P := sn_wp pr_PR_isLowest (sn_lk ft_PR) (sn_lk lc_PR) (sn_lk ca_PR_isLowest) 5 26
theorem ct_PR_isLowest : sn_CT y_PR_isLowest ws_PR_isLowest 1 sp_PR_isLowest := sn_CT_wp 26 pl_PR pk_PR_isLowest FI_PR LC_PR co_PR_isLowest
theorem pr_isX {m : Int64} {x : Int} {v : Nat} (e : x = (v : Int)) (hv : v < 64) {σ : sn_M} (po : Option sn_V → sn_M → Prop) (h1 : ib m v = true → po (some (.inl 1)) σ) (h0 : ¬ ib m v = true → po (some (.inl 0)) σ) : sp_PR_isIn [.inr (.inl m), .inl x] σ po := by
  subst e
  exact pr_isIn hv po h1 h0
theorem pr_low {T : fT} {S : sT} {b : Nat} {σ : sn_M} (hx : sx_v (s_X S) b σ) (hok : s_ok T S) {W : Int64} (hP : upc S (ib W)) {l : Nat} (hl : ib W l = true) (hk : 1 ≤ S.1 0 l) (po : Option sn_V → sn_M → Prop) (h1 : low S (ib W) l → po (some (.inl 1)) σ) (h0 : ¬ low S (ib W) l → po (some (.inl 0)) σ) : sp_PR_isLowest [.inr (.inr (9, b)), .inl (l : Int), .inr (.inl W)] σ po := by
  have r3 : σ.1 13 b = S.1 3 := hx.1 3 (by omega)
  have r6 : σ.1 16 b = S.1 6 := hx.1 6 (by omega)
  obtain ⟨l1, l2⟩ := hP.1 l hl
  have b1 := hok.1.1
  have b2 := hok.1.2.1
  have lw := low_iff hok hP hl hk
  refine fun G => And.intro (show (0 : Int) ≤ (l : Int) ∧ (l : Int) < (60 : Nat) by omega) (And.intro (fun c => ?_) (fun c => ?_))
  · have c : σ.1 13 b l = -1 := c
    rw [r3] at c
    exact And.intro (Or.inr rfl) (h1 (lw.mpr (Or.inl c)))
  · have c : ¬ σ.1 13 b l = -1 := c
    rw [r3] at c
    obtain ⟨a1, a2, -⟩ := (hok.2.1 l l1).2.2.2.1 (s_k12 hok l1 hk c)
    obtain ⟨u1, u2⟩ := s_us hok a1
    have ix : 0 ≤ σ.1 13 b l ∧ σ.1 13 b l < (100 : Nat) := by rw [r3]; have := a1.1; have := a1.2.1; omega
    have e : σ.1 16 b (σ.1 13 b l).toNat = S.1 6 (S.1 3 l).toNat := by rw [r6, r3]
    refine And.intro ix (And.intro (fun d => ?_) (fun d => ?_))
    · have d : σ.1 16 b (σ.1 13 b l).toNat = -1 := d
      rw [e] at d
      exact And.intro (Or.inr rfl) (h1 (lw.mpr (Or.inr (fun v hv => by omega))))
    · have d : ¬ σ.1 16 b (σ.1 13 b l).toNat = -1 := d
      rw [e] at d
      obtain ⟨v, hv⟩ := Int.eq_ofNat_of_zero_le (show 0 ≤ S.1 6 (S.1 3 l).toNat by omega)
      have e2 : σ.1 16 b (σ.1 13 b l).toNat = (v : Int) := e.trans hv
      refine And.intro ix (pr_isX e2 (by omega) _ (fun w => And.intro (fun z => absurd z (by decide)) (fun _ => And.intro (Or.inl rfl) (h0 (fun y => ?_)))) (fun w => And.intro (fun _ => And.intro (Or.inr rfl) (h1 (lw.mpr (Or.inr (fun u hu => ?_))))) (fun z => absurd rfl z)))
      · rcases lw.mp y with y | y
        · exact c y
        · exact y v hv w
      · have : u = v := by omega
        rw [this]
        exact w
def ca_PR_splits : List (Nat × Nat × Nat × sn_P) := [(43, 1, 0, sp_PR_bit), (58, 4, 4, sp_PR_reach), (65, 2, 0, sp_PR_isIn), (69, 3, 0, sp_PR_isLowest)]
theorem co_PR_splits : ∀ x n ci s', sn_lk ca_PR_splits x = some (n, ci, s') → sn_CO "SwitchedNets$Proof" sn_ws 3 x n ci s' := sn_co_of (List.forall_mem_cons.mpr ⟨sn_CO_S ct_PR_bit (by decide) (by decide) (sn_gS ml_PR_43 mt_PR_bit mz_PR mc_PR_bit) ⟨nh_PR.1, nh_PR.2, pn_PR_bit⟩, List.forall_mem_cons.mpr ⟨sn_CO_V ("SwitchedNets$Proof", T_PR, 5) ct_PR_reach (by decide) (by decide) (sn_gV ml_PR_58 mi_PR_reach ms_PR_reach mz_PR mc_PR_reach) (by decide) rfl rfl ⟨nh_PR.1, nh_PR.2, pn_PR_reach⟩, List.forall_mem_cons.mpr ⟨sn_CO_S ct_PR_isIn (by decide) (by decide) (sn_gS ml_PR_65 mt_PR_isIn mz_PR mc_PR_isIn) ⟨nh_PR.1, nh_PR.2, pn_PR_isIn⟩, List.forall_mem_cons.mpr ⟨sn_CO_S ct_PR_isLowest (by decide) (by decide) (sn_gS ml_PR_69 mt_PR_isLowest mz_PR mc_PR_isLowest) ⟨nh_PR.1, nh_PR.2, pn_PR_isLowest⟩, fun _ h => absurd h List.not_mem_nil⟩⟩⟩⟩)
def sp_PR_splits : sn_P := sn_wp pr_PR_splits (sn_lk ft_PR) (sn_lk lc_PR) (sn_lk ca_PR_splits) 7 39
theorem ct_PR_splits : sn_CT y_PR_splits ws_PR_splits 3 sp_PR_splits := sn_CT_wp 39 pl_PR pk_PR_splits FI_PR LC_PR co_PR_splits
theorem low_ne {S : sT} {P : Nat → Bool} {l : Nat} (hw : low S P l) (hl : P l = true) (hk : 1 ≤ S.1 0 l) (hP : upc S P) : rm P l (sl S l) = true ∧ rm P l (sr S l) = true := by
  obtain ⟨a, b⟩ := hP.2 l hl hk
  obtain ⟨c, d⟩ := hw l hl hk
  exact ⟨rm_in.mpr ⟨a, c⟩, rm_in.mpr ⟨b, d⟩⟩
theorem sl_e {T : fT} {S : sT} (h : s_ok T S) {l : Nat} (hl : l < S.2.1) (hk : 1 ≤ S.1 0 l) : S.1 5 (S.1 1 l).toNat = (sl S l : Int) ∧ S.1 5 (S.1 2 l).toNat = (sr S l : Int) := by
  obtain ⟨⟨-, s2⟩, -, s4⟩ := s_src h hl hk
  unfold sl sr
  exact ⟨by omega, by omega⟩
theorem pr_spl {T : fT} {S : sT} {b : Nat} {σ : sn_M} (hx : sx_v (s_X S) b σ) (hok : s_ok T S) {W : Int64} (hP : upc S (ib W)) {l : Nat} (hl : ib W l = true) (hk : S.1 0 l = 1 ∨ S.1 0 l = 3) (po : Option sn_V → sn_M → Prop) (h1 : ∀ σ', pr_f σ σ' → spl S (ib W) l → po (some (.inl 1)) σ') (h0 : ∀ σ', pr_f σ σ' → ¬ spl S (ib W) l → po (some (.inl 0)) σ') : sp_PR_splits [.inr (.inr (25, 0)), .inr (.inr (9, b)), .inl (l : Int), .inr (.inl W)] σ po := by
  have r1 : σ.1 11 b = S.1 1 := hx.1 1 (by omega)
  have r5 : σ.1 15 b = S.1 5 := hx.1 5 (by omega)
  obtain ⟨l1, l2⟩ := hP.1 l hl
  have b1 := hok.1.1
  have b2 := hok.1.2.1
  have k1 : 1 ≤ S.1 0 l := by omega
  obtain ⟨a1, a2, -⟩ := (hok.2.1 l l1).2.2.1 k1
  obtain ⟨e1, e2⟩ := sl_e hok l1 k1
  have il : (0 : Int) ≤ (l : Int) ∧ (l : Int) < (60 : Nat) := by omega
  refine fun G => pr_low hx hok hP hl k1 _ (fun w => And.intro (fun z => absurd z (by decide)) (fun _ => ?_)) (fun w => And.intro (fun _ => And.intro (Or.inl rfl) (h0 σ (pr_f_rf σ) (fun s => w s.2.1))) (fun z => absurd rfl z))
  obtain ⟨n1, n2⟩ := low_ne w hl k1 hP
  have eM := ib_rm (W := W) (show l < 64 by omega)
  have ix : 0 ≤ σ.1 11 b l ∧ σ.1 11 b l < (100 : Nat) := by rw [r1]; have := a1.1; have := a1.2.1; omega
  refine And.intro il (And.intro ix (fun G2 => And.intro rfl (And.intro rfl ⟨T, S, sl S l, hx, hok, ?_, ?_, ?_, fun R σ' hR f => ?_⟩)))
  · show upc S (ib (W &&& (sn_shl 1 (l : Int) ^^^ (-1))))
    rw [eM]
    exact rm_up hP w
  · show σ.1 15 b (σ.1 11 b l).toNat = _
    rw [r5, r1]
    exact e1
  · show ib (W &&& (sn_shl 1 (l : Int) ^^^ (-1))) (sl S l) = true
    rw [eM]
    exact n1
  · have hR : ∀ v, ib R v = true ↔ (ib (W &&& (sn_shl 1 (l : Int) ^^^ (-1))) v = true ∧ cn (pG S (ib (W &&& (sn_shl 1 (l : Int) ^^^ (-1))))) (sl S l) v) := hR
    rw [eM] at hR
    have r2' : σ'.1 12 b = S.1 2 := (show σ'.1 12 b = σ.1 12 b from funext (fun c => f.1 12 b c (by omega) (by omega))).trans (hx.1 2 (by omega))
    have r5' : σ'.1 15 b = S.1 5 := (show σ'.1 15 b = σ.1 15 b from funext (fun c => f.1 15 b c (by omega) (by omega))).trans (hx.1 5 (by omega))
    have ix2 : 0 ≤ σ'.1 12 b l ∧ σ'.1 12 b l < (100 : Nat) := by rw [r2']; have := a2.1; have := a2.2.1; omega
    have e3 : σ'.1 15 b (σ'.1 12 b l).toNat = (sr S l : Int) := by rw [r5', r2']; exact e2
    have hs := (hP.1 _ (rm_in.mp n2).1).1
    refine And.intro il (And.intro ix2 (pr_isX e3 (by omega) _ (fun y => And.intro (fun z => absurd z (by decide)) (fun _ => And.intro (Or.inl rfl) (h0 σ' f (fun s => s.2.2 ((hR _).mp y).2)))) (fun y => And.intro (fun _ => And.intro (Or.inr rfl) (h1 σ' f ⟨hk, w, fun c => y ((hR _).mpr ⟨n2, c⟩)⟩)) (fun z => absurd rfl z))))
/-- the splitting link found so far -/
def spv (S : sT) (P : Nat → Bool) (i : Nat) (sp : Int) : Prop := (sp = -1 ∧ nsp S P i) ∨ ∃ t : Nat, sp = (t : Int) ∧ P t = true ∧ spl S P t ∧ nsp S P t
def sp_PR_lastRule : sn_P := fun vs σ po => match vs with
  | [.inr (.inr q), .inr (.inr t), .inr (.inl W)] => q = (25, 0) ∧ t.1 = 9 ∧ ∃ (T : fT) (S : sT), sx_v (s_X S) t.2 σ ∧ s_ok T S ∧ np S (ib W) ∧ ∀ (l : Nat) (σ' : sn_M), lr S (ib W) l → pr_f σ σ' → po (some (.inl (l : Int))) σ'
  | _ => False
def ca_PR_lastRule : List (Nat × Nat × Nat × sn_P) := [(65, 2, 0, sp_PR_isIn), (69, 3, 0, sp_PR_isLowest), (73, 4, 4, sp_PR_splits)]
theorem co_PR_lastRule : ∀ x n ci s', sn_lk ca_PR_lastRule x = some (n, ci, s') → sn_CO "SwitchedNets$Proof" sn_ws 4 x n ci s' := sn_co_of (List.forall_mem_cons.mpr ⟨sn_CO_S ct_PR_isIn (by decide) (by decide) (sn_gS ml_PR_65 mt_PR_isIn mz_PR mc_PR_isIn) ⟨nh_PR.1, nh_PR.2, pn_PR_isIn⟩, List.forall_mem_cons.mpr ⟨sn_CO_S ct_PR_isLowest (by decide) (by decide) (sn_gS ml_PR_69 mt_PR_isLowest mz_PR mc_PR_isLowest) ⟨nh_PR.1, nh_PR.2, pn_PR_isLowest⟩, List.forall_mem_cons.mpr ⟨sn_CO_V ("SwitchedNets$Proof", T_PR, 5) ct_PR_splits (by decide) (by decide) (sn_gV ml_PR_73 mi_PR_splits ms_PR_splits mz_PR mc_PR_splits) (by decide) rfl rfl ⟨nh_PR.1, nh_PR.2, pn_PR_splits⟩, fun _ h => absurd h List.not_mem_nil⟩⟩⟩)
set_option maxHeartbeats 4000000 in
theorem ct_PR_lastRule : sn_CT y_PR_lastRule ws_PR_lastRule 4 sp_PR_lastRule := by
  refine sn_CT_of (pr := pr_PR_lastRule) (fi := (sn_lk ft_PR)) (lc := (sn_lk lc_PR)) (ca := sn_lk ca_PR_lastRule) pl_PR ?_ pk_PR_lastRule FI_PR LC_PR co_PR_lastRule ?_
  · intro vs σ post h
    unfold sp_PR_lastRule at h
    split at h
    · exact Nat.le_of_ble_eq_true rfl
    · exact h.elim
  · intro vs σ post h hvs hR
    unfold sp_PR_lastRule at h
    split at h
    · next q t W =>
      obtain ⟨a, b⟩ := t
      obtain ⟨rfl, ha, T, S, hx, hok, hn, hpo⟩ := h
      have ha : a = 9 := ha
      subst ha
      intro G hG
      have hx : sx_v (s_X S) b σ := hx
      have b1 := hok.1.1
      have hP := hn.1
      have sxk : ∀ σ1, pr_f σ σ1 → sx_v (s_X S) b σ1 := fun σ1 fr => ⟨fun a ha => by rw [← hx.1 a ha]; funext c; exact fr.1 _ _ _ (by omega) (by omega), fun j h1 h2 => by rw [← hx.2 j h1 h2]; exact fr.1 _ _ _ (by omega) (by omega)⟩
      have loop : ∀ (d i a : Nat) (sp : Int) (σ1 : sn_M), S.2.1 - i = d → i ≤ S.2.1 → pr_f σ σ1 → nlp S (ib W) i → spv S (ib W) i sp → (∀ k, k < i → ib W k = true → S.1 0 k = 0 → ib W a = true) → G 9 [some (.inr (.inr (25, 0))), some (.inr (.inr (9, b))), some (.inr (.inl W)), none, some (.inl (a : Int)), some (.inl sp), some (.inl (i : Int))] [] σ1 := by
        intro d
        induction d with
        | zero =>
          intro i a sp σ1 hd hi hfr hl hs ha
          have hx1 := sxk σ1 hfr
          have e9 : σ1.1 9 b 9 = (S.2.1 : Int) := sx_9 hx1 (by omega)
          have ei : i = S.2.1 := by omega
          subst ei
          refine hG 30 [9] _ _ _ _ ?_
          refine And.intro (fun c => ?_) (fun _ => And.intro (fun c => ?_) (fun c => ?_))
          · have c : (S.2.1 : Int) < σ1.1 9 b 9 := c
            omega
          · have c : sp = -1 := c
            rcases hs with ⟨-, hs⟩ | ⟨t, e, -⟩
            · obtain ⟨-, x, x1, x2, x3⟩ := lr_one (s_k3 hok) hn hl hs
              have ha := ha x (hP.1 x x1).1 x1 x2
              rw [x3 a ha]
              exact hpo x σ1 ⟨x1, Or.inr (Or.inr ⟨hl, hs, x2⟩)⟩ hfr
            · omega
          · have c : ¬ sp = -1 := c
            rcases hs with ⟨e, -⟩ | ⟨t, rfl, t1, t2, t3⟩
            · exact absurd e c
            · exact hpo t σ1 ⟨t1, Or.inr (Or.inl ⟨hl, t2, t3⟩)⟩ hfr
        | succ d ih =>
          intro i a sp σ1 hd hi hfr hl hs ha
          have hx1 := sxk σ1 hfr
          have e9 : σ1.1 9 b 9 = (S.2.1 : Int) := sx_9 hx1 (by omega)
          have r0 : σ1.1 10 b = S.1 0 := hx1.1 0 (by omega)
          have il : (0 : Int) ≤ (i : Int) ∧ (i : Int) < (60 : Nat) := by omega
          have turn : ∀ (a : Nat) (sp : Int) (σ1 : sn_M), pr_f σ σ1 → (ib W i = true → S.1 0 i = 2 → ¬ low S (ib W) i) → spv S (ib W) (i + 1) sp → (∀ k, k < i + 1 → ib W k = true → S.1 0 k = 0 → ib W a = true) → sn_R ((i : Int) + 1) ∧ G 9 [some (.inr (.inr (25, 0))), some (.inr (.inr (9, b))), some (.inr (.inl W)), none, some (.inl (a : Int)), some (.inl sp), some (.inl ((i : Int) + 1))] [] σ1 := by
            intro a sp σ1 fr nl ns na
            refine And.intro (by unfold sn_R; omega) (ih (i + 1) a sp σ1 (by omega) (by omega) fr (fun k hk hPk k2 => ?_) ns na)
            by_cases z : k = i
            · subst z
              exact nl hPk k2
            · exact hl k (by omega) hPk k2
          have nsK : ¬ (ib W i = true ∧ spl S (ib W) i) → spv S (ib W) (i + 1) sp := by
            intro z
            rcases hs with ⟨e, hs⟩ | hs
            · refine Or.inl ⟨e, fun k hk hPk s => ?_⟩
              by_cases y : k = i
              · subst y
                exact z ⟨hPk, s⟩
              · exact hs k (by omega) hPk s
            · exact Or.inr hs
          have naK : ¬ (ib W i = true ∧ S.1 0 i = 0) → (∀ k, k < i + 1 → ib W k = true → S.1 0 k = 0 → ib W a = true) := by
            intro z k hk hPk k0
            by_cases y : k = i
            · subst y
              exact absurd ⟨hPk, k0⟩ z
            · exact ha k (by omega) hPk k0
          refine hG 60 [9] _ _ _ _ ?_
          refine And.intro (fun _ => ?_) (fun c => ?_)
          case refine_2 =>
            have c : σ1.1 9 b 9 ≤ (i : Int) := c
            omega
          refine pr_isIn (by omega) _ (fun w => And.intro (fun z => absurd z (by decide)) (fun _ => ?_)) (fun w => And.intro (fun _ => turn a sp σ1 hfr (fun z => absurd z w) (nsK (fun z => w z.1)) (naK (fun z => w z.1))) (fun z => absurd rfl z))
          have i3 := s_k3 hok i (by omega)
          have i0 := (hP.1 i w).2
          refine And.intro il (And.intro (fun c => ?_) (fun c => ?_))
          · have c : σ1.1 10 b i = 2 := c
            have c2 : S.1 0 i = 2 := by rw [← r0]; exact c
            have nk0 : ¬ σ1.1 10 b i = 0 := by omega
            have ns : ¬ (ib W i = true ∧ spl S (ib W) i) := fun z => by have := z.2.1; omega
            refine pr_low hx1 hok hP w (by omega) _ (fun y => And.intro (fun z => absurd z (by decide)) (fun _ => hpo i σ1 ⟨w, Or.inl ⟨c2, y, hl⟩⟩ hfr)) (fun y => And.intro (fun _ => ?_) (fun z => absurd rfl z))
            refine And.intro il (And.intro (fun z => absurd z nk0) (fun _ => And.intro (fun _ => And.intro il (And.intro (fun _ => ?_) (fun z => absurd c z))) (fun _ => ?_)))
            · exact turn a sp σ1 hfr (fun _ _ => y) (nsK ns) (naK (fun z => by omega))
            · exact turn a sp σ1 hfr (fun _ _ => y) (nsK ns) (naK (fun z => by omega))
          · have c : ¬ σ1.1 10 b i = 2 := c
            have c2 : ¬ S.1 0 i = 2 := by rw [← r0]; exact c
            refine And.intro il (And.intro (fun z => ?_) (fun z => ?_))
            · have z : σ1.1 10 b i = 0 := z
              have z2 : S.1 0 i = 0 := by rw [← r0]; exact z
              exact turn i sp σ1 hfr (fun _ y => absurd y c2) (nsK (fun y => by have := y.2.1; omega)) (fun _ _ _ _ => w)
            · have z : ¬ σ1.1 10 b i = 0 := z
              have z2 : ¬ S.1 0 i = 0 := by rw [← r0]; exact z
              refine And.intro (fun e => And.intro il (And.intro (fun y => absurd y c) (fun _ => ?_))) (fun e => ?_)
              · have e : sp = -1 := e
                refine pr_spl hx1 hok hP w (by omega) _ (fun σ2 f2 y => And.intro (fun z => absurd z (by decide)) (fun _ => ?_)) (fun σ2 f2 y => And.intro (fun _ => ?_) (fun z => absurd rfl z))
                · refine turn a i σ2 (pr_f_t hfr f2) (fun _ y => absurd y c2) (Or.inr ⟨i, rfl, w, y, ?_⟩) (naK (fun z => z2 z.2))
                  rcases hs with ⟨-, hs⟩ | ⟨t, e2, -⟩
                  · exact hs
                  · omega
                · exact turn a sp σ2 (pr_f_t hfr f2) (fun _ y => absurd y c2) (nsK (fun z => y z.2)) (naK (fun z => z2 z.2))
              · have e : ¬ sp = -1 := e
                refine turn a sp σ1 hfr (fun _ y => absurd y c2) ?_ (naK (fun z => z2 z.2))
                rcases hs with ⟨e2, -⟩ | hs
                · exact absurd e2 e
                · exact Or.inr hs
      refine hG 20 [9] _ _ _ _ ?_
      exact loop S.2.1 0 0 (-1) σ rfl (Nat.zero_le _) (pr_f_rf σ) (fun k hk => absurd hk (Nat.not_lt_zero k)) (Or.inl ⟨rfl, fun k hk => absurd hk (Nat.not_lt_zero k)⟩) (fun k hk => absurd hk (Nat.not_lt_zero k))
    · exact h.elim
