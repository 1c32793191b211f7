/-! The reference: the last rule of a piece. -/
theorem gd_pG {S : sT} {P M : Nat → Bool} (hM : ∀ v, M v = true → P v = true) {ch : Nat → Bool} {x y : Nat} (h : cn (pE S M ++ ce ch (pQ S M)) x y) : cn (pG S P) x y := by
  refine cn_sub (fun e he => ?_) h
  rcases List.mem_append.mp he with he | he
  · obtain ⟨l, l1, l2, l3, l4⟩ := pE_in.mp he
    exact pG_in.mpr ⟨l, l1, by omega, hM l l3, l4⟩
  · obtain ⟨k, k1, k2, k3, rfl⟩ := ce_pin he
    refine pG_in.mpr ⟨k, k1, by omega, hM k k3, ?_⟩
    cases ch k with
    | true => exact Or.inr rfl
    | false => exact Or.inl rfl
/-- a link that splits leaves two parts -/
theorem sp_cov {S : sT} (h3k : ∀ l, l < S.2.1 → S.1 0 l ≤ 3) {P : Nat → Bool} (h : np S P) {t : Nat} (ht : P t = true) (hk : S.1 0 t = 1 ∨ S.1 0 t = 3) (hl : low S P t) (hn : ¬ cn (pG S (rm P t)) (sl S t) (sr S t)) {v : Nat} (hv : rm P t v = true) : cn (pG S (rm P t)) (sl S t) v ∨ cn (pG S (rm P t)) (sr S t) v := by
  obtain ⟨n1, n2⟩ := low_ne hl ht (by omega) h.1
  obtain ⟨L, hL⟩ : ∃ L : Nat → Bool, ∀ v, L v = true ↔ (rm P t v = true ∧ cn (pG S (rm P t)) (sl S t) v) := ⟨fun v => @decide _ (Classical.propDecidable (rm P t v = true ∧ cn (pG S (rm P t)) (sl S t) v)), fun v => @decide_eq_true_iff _ (Classical.propDecidable _)⟩
  by_cases z : cn (pG S (rm P t)) (sl S t) v
  · exact Or.inl z
  · obtain ⟨-, m⟩ := np_split h3k h ht hk hl hL (fun y => hn ((hL _).mp y).2)
    have inR : ∀ w, rm P t w = true → ¬ cn (pG S (rm P t)) (sl S t) w → w ∈ pA S (fun v => rm P t v && !L v) := fun w h1 h2 => by
      refine pA_in.mpr ⟨sA_in.mpr (h.1.1 w (rm_in.mp h1).1), ?_⟩
      rw [Bool.and_eq_true, Bool.not_eq_true', ← Bool.not_eq_true]
      exact ⟨h1, fun y => h2 ((hL _).mp y).2⟩
    have c := m.2.2.2.2.2 (fun _ => false) _ (inR _ n2 hn) v (inR v hv z)
    exact Or.inr (gd_pG (fun w hw => ((Bool.and_eq_true _ _).mp hw).1) c)
theorem spl_iff {S : sT} (h3k : ∀ l, l < S.2.1 → S.1 0 l ≤ 3) {P : Nat → Bool} (h : np S P) {t : Nat} (ht : P t = true) (hk : S.1 0 t = 1 ∨ S.1 0 t = 3) (hl : low S P t) {M A B : Int64} (hM : ib M = rm P t) (hA : ∀ v, ib A v = true ↔ (rm P t v = true ∧ cn (pG S (rm P t)) (sl S t) v)) (hB : ∀ v, ib B v = true ↔ (rm P t v = true ∧ cn (pG S (rm P t)) (sr S t) v)) : spl S P t ↔ (A &&& B = 0 ∧ A ||| B = M) := by
  obtain ⟨n1, n2⟩ := low_ne hl ht (by omega) h.1
  constructor
  · rintro ⟨-, -, hn⟩
    refine ⟨ib_eq (fun v => ?_), ib_eq (fun v => ?_)⟩
    · rw [ib_0, ib_and, Bool.and_eq_true, hA, hB]
      exact ⟨fun z => absurd (cn_tr z.1.2 (cn_sy z.2.2)) hn, fun z => by cases z⟩
    · rw [ib_or, Bool.or_eq_true, hA, hB, hM]
      refine ⟨fun z => ?_, fun z => ?_⟩
      · rcases z with z | z
        · exact z.1
        · exact z.1
      · rcases sp_cov h3k h ht hk hl hn z with y | y
        · exact Or.inl ⟨z, y⟩
        · exact Or.inr ⟨z, y⟩
  · rintro ⟨h1, -⟩
    refine ⟨hk, hl, fun z => ?_⟩
    have : ib (A &&& B) (sr S t) = true := by
      rw [ib_and, Bool.and_eq_true, hA, hB]
      exact ⟨⟨n2, z⟩, n2, cn_rf _ _⟩
    rw [h1, ib_0] at this
    cases this
/-- the right part is what the left one leaves -/
theorem spl_R {S : sT} (h3k : ∀ l, l < S.2.1 → S.1 0 l ≤ 3) {P : Nat → Bool} (h : np S P) {t : Nat} (ht : P t = true) (hs : spl S P t) {A B : Int64} (hA : ∀ v, ib A v = true ↔ (rm P t v = true ∧ cn (pG S (rm P t)) (sl S t) v)) (hB : ∀ v, ib B v = true ↔ (rm P t v = true ∧ cn (pG S (rm P t)) (sr S t) v)) : ∀ v, ib B v = true ↔ (rm P t v = true ∧ ¬ ib A v = true) := by
  obtain ⟨hk, hl, hn⟩ := hs
  intro v
  rw [hA, hB]
  refine ⟨fun z => ⟨z.1, fun y => hn (cn_tr y.2 (cn_sy z.2))⟩, fun z => ⟨z.1, ?_⟩⟩
  rcases sp_cov h3k h ht hk hl hn z.1 with y | y
  · exact absurd ⟨z.1, y⟩ z.2
  · exact y
def ca_MD_isLast : List (Nat × Nat × Nat × sn_P) := [(196, 2, 0, sp_MD_isIn)]
theorem co_MD_isLast : ∀ x n ci s', sn_lk ca_MD_isLast x = some (n, ci, s') → sn_CO "SwitchedNetsModel" sn_ws 1 x n ci s' := sn_co_of (List.forall_mem_cons.mpr ⟨sn_CO_S ct_MD_isIn (by decide) (by decide) (sn_gS ml_MD_196 mt_MD_isIn mz_MD mc_MD_isIn) ⟨nh_MD.1, nh_MD.2, pn_MD_isIn⟩, fun _ h => absurd h List.not_mem_nil⟩)
def sp_MD_isLast : sn_P := sn_wp pr_MD_isLast (sn_lk ft_MD) (sn_lk lc_MD) (sn_lk ca_MD_isLast) 4 20
theorem ct_MD_isLast : sn_CT y_MD_isLast ws_MD_isLast 1 sp_MD_isLast := sn_CT_wp 20 pl_MD pk_MD_isLast FI_MD LC_MD co_MD_isLast
theorem md_last {T : fT} {S : sT} {σ : sn_M} (hm : mq S σ) (hok : s_ok T S) {W : Int64} (hP : upc S (ib W)) {l : Nat} (hl : ib W l = true) (hk : 1 ≤ S.1 0 l) (po : Option sn_V → sn_M → Prop) (h1 : low S (ib W) l → po (some (.inl 1)) σ) (h0 : ¬ low S (ib W) l → po (some (.inl 0)) σ) : sp_MD_isLast [.inr (.inr (40, 0)), .inr (.inl W), .inl (l : Int)] σ po := by
  obtain ⟨l1, l2⟩ := hP.1 l hl
  have b1 := hok.1.1
  have b2 := hok.1.2.1
  have r3 : σ.1 52 0 l = S.1 3 l := hm.1 3 l (by omega) l1
  have lw := low_iff hok hP hl hk
  have il : (0 : Int) ≤ (l : Int) ∧ (l : Int) < (240 : Nat) := by omega
  refine fun G => And.intro il (And.intro (fun c => ?_) (fun c => ?_))
  · have c : σ.1 52 0 l < 0 := c
    rw [r3] at c
    refine And.intro (Or.inr rfl) (h1 (lw.mpr (Or.inl ?_)))
    exact Classical.byContradiction (fun z => by
      obtain ⟨a1, -⟩ := (hok.2.1 l l1).2.2.2.1 (s_k12 hok l1 hk z)
      have := a1.1
      omega)
  · have c : 0 ≤ σ.1 52 0 l := c
    rw [r3] at c
    obtain ⟨a1, a2, -⟩ := (hok.2.1 l l1).2.2.2.1 (s_k12 hok l1 hk (by omega))
    obtain ⟨u1, u2⟩ := s_us hok a1
    have ix : 0 ≤ σ.1 52 0 l ∧ σ.1 52 0 l < (400 : Nat) := by rw [r3]; have := a1.1; have := a1.2.1; omega
    have e : σ.1 55 0 (σ.1 52 0 l).toNat = S.1 6 (S.1 3 l).toNat := by rw [r3]; exact hm.2.1 6 _ (by omega) (by omega) (by have := a1.1; have := a1.2.1; omega)
    refine And.intro il (And.intro ix (md_isIn (show σ.1 55 0 (σ.1 52 0 l).toNat < 64 by rw [e]; omega) _ (fun v hv w => And.intro (fun z => absurd z (by decide)) (fun _ => And.intro (Or.inl rfl) (h0 (fun y => ?_)))) (fun w => And.intro (fun _ => And.intro (Or.inr rfl) (h1 (lw.mpr (Or.inr (fun u hu => w u (e.trans hu)))))) (fun z => absurd rfl z))))
    have hv : σ.1 55 0 (σ.1 52 0 l).toNat = (v : Int) := hv
    rcases lw.mp y with y | y
    · omega
    · exact y v (e.symm.trans hv) w
def sp_MD_firstOf : sn_P := fun vs σ po => match vs with
  | [.inr (.inr q), .inr (.inl W)] => q = (40, 0) ∧ ∃ (T : fT) (S : sT), mq S σ ∧ s_ok T S ∧ np S (ib W) ∧ ∀ x : Int, ((∃ l : Nat, x = (l : Int) ∧ lr S (ib W) l) ∨ (x = -1 ∧ nlp S (ib W) S.2.1 ∧ nsp S (ib W) S.2.1)) → po (some (.inl x)) σ
  | _ => False
def ca_MD_firstOf : List (Nat × Nat × Nat × sn_P) := [(196, 2, 0, sp_MD_isIn), (200, 3, 8, sp_MD_isLast), (205, 3, 8, sp_MD_joined)]
theorem co_MD_firstOf : ∀ x n ci s', sn_lk ca_MD_firstOf x = some (n, ci, s') → sn_CO "SwitchedNetsModel" sn_ws 2 x n ci s' := sn_co_of (List.forall_mem_cons.mpr ⟨sn_CO_S ct_MD_isIn (by decide) (by decide) (sn_gS ml_MD_196 mt_MD_isIn mz_MD mc_MD_isIn) ⟨nh_MD.1, nh_MD.2, pn_MD_isIn⟩, List.forall_mem_cons.mpr ⟨sn_CO_V ("SwitchedNetsModel", T_MD, 29) ct_MD_isLast (by decide) (by decide) (sn_gV ml_MD_200 mi_MD_isLast ms_MD_isLast mz_MD mc_MD_isLast) (by decide) rfl rfl ⟨nh_MD.1, nh_MD.2, pn_MD_isLast⟩, List.forall_mem_cons.mpr ⟨sn_CO_V ("SwitchedNetsModel", T_MD, 29) ct_MD_joined (by decide) (by decide) (sn_gV ml_MD_205 mi_MD_joined ms_MD_joined mz_MD mc_MD_joined) (by decide) rfl rfl ⟨nh_MD.1, nh_MD.2, pn_MD_joined⟩, fun _ h => absurd h List.not_mem_nil⟩⟩⟩)
set_option maxHeartbeats 4000000 in
theorem ct_MD_firstOf : sn_CT y_MD_firstOf ws_MD_firstOf 2 sp_MD_firstOf := by
  refine sn_CT_of (pr := pr_MD_firstOf) (fi := (sn_lk ft_MD)) (lc := (sn_lk lc_MD)) (ca := sn_lk ca_MD_firstOf) pl_MD ?_ pk_MD_firstOf FI_MD LC_MD co_MD_firstOf ?_
  · intro vs σ post h
    unfold sp_MD_firstOf at h
    split at h
    · exact Nat.le_of_ble_eq_true rfl
    · exact h.elim
  · intro vs σ post h hvs hR
    unfold sp_MD_firstOf at h
    split at h
    · next q W =>
      obtain ⟨rfl, T, S, hm, hok, hn, hpo⟩ := h
      intro G hG
      have b1 := hok.1.1
      have b2 := hok.1.2.1
      have e46 : σ.1 46 0 0 = (S.2.1 : Int) := hm.2.2.1
      have hP := hn.1
      have h3k := s_k3 hok
      have i0 : (0 : Int) ≤ 0 ∧ (0 : Int) < (4 : Nat) := by omega
      have two : ∀ (j : Nat) (x best : Int) (o5 o7 o9 : Option sn_V), x = (j : Int) - 1 → j ≤ S.2.1 → nlp S (ib W) S.2.1 → ((best = -1 ∧ ∀ k, j ≤ k → k < S.2.1 → ib W k = true → ¬ spl S (ib W) k) ∨ ∃ t : Nat, best = (t : Int) ∧ j ≤ t ∧ ib W t = true ∧ spl S (ib W) t ∧ ∀ k, j ≤ k → k < t → ib W k = true → ¬ spl S (ib W) k) → G 76 [some (.inr (.inr (40, 0))), some (.inr (.inl W)), none, some (.inl best), some (.inl x), o5, none, o7, none, o9, none] [] σ := by
        intro j
        induction j with
        | zero =>
          intro x best o5 o7 o9 hx _ hnl hb
          refine hG 20 [76] _ _ _ _ ?_
          refine And.intro (fun _ => hpo best ?_) (fun c => ?_)
          · rcases hb with ⟨rfl, hb⟩ | ⟨t, rfl, -, t1, t2, t3⟩
            · exact Or.inr ⟨rfl, hnl, fun k hk => hb k (Nat.zero_le _) hk⟩
            · exact Or.inl ⟨t, rfl, t1, Or.inr (Or.inl ⟨hnl, t2, fun k hk => t3 k (Nat.zero_le _) hk⟩)⟩
          · have c : 0 ≤ x := c
            omega
        | succ m ih =>
          intro x best o5 o7 o9 hx hj hnl hb
          have ex : x = (m : Int) := by omega
          subst ex
          have im : (0 : Int) ≤ (m : Int) ∧ (m : Int) < (240 : Nat) := by omega
          have r0 : σ.1 49 0 m = S.1 0 m := hm.1 0 m (by omega) (by omega)
          have r1 : σ.1 50 0 m = S.1 1 m := hm.1 1 m (by omega) (by omega)
          have r2 : σ.1 51 0 m = S.1 2 m := hm.1 2 m (by omega) (by omega)
          have no : ∀ (o5 o7 o9 : Option sn_V), (ib W m = true → ¬ spl S (ib W) m) → sn_R ((m : Int) + -1) ∧ G 76 [some (.inr (.inr (40, 0))), some (.inr (.inl W)), none, some (.inl best), some (.inl ((m : Int) + -1)), o5, none, o7, none, o9, none] [] σ := by
            intro o5 o7 o9 hns
            refine And.intro (by unfold sn_R; omega) (ih _ best o5 o7 o9 (by omega) (by omega) hnl ?_)
            rcases hb with ⟨e, hb⟩ | ⟨t, e, t0, t1, t2, t3⟩
            · refine Or.inl ⟨e, fun k h1 h2 h3 => ?_⟩
              by_cases z : k = m
              · subst z
                exact hns h3
              · exact hb k (by omega) h2 h3
            · refine Or.inr ⟨t, e, by omega, t1, t2, fun k h1 h2 h3 => ?_⟩
              by_cases z : k = m
              · subst z
                exact hns h3
              · exact t3 k (by omega) h2 h3
          have yes : ∀ (o5 o7 o9 : Option sn_V), ib W m = true → spl S (ib W) m → sn_R ((m : Int) + -1) ∧ G 76 [some (.inr (.inr (40, 0))), some (.inr (.inl W)), none, some (.inl (m : Int)), some (.inl ((m : Int) + -1)), o5, none, o7, none, o9, none] [] σ := by
            intro o5 o7 o9 h1 h2
            exact And.intro (by unfold sn_R; omega) (ih _ (m : Int) o5 o7 o9 (by omega) (by omega) hnl (Or.inr ⟨m, rfl, Nat.le_refl m, h1, h2, fun k h1 h2 => absurd h2 (by omega)⟩))
          have at174 : ∀ (M A B : Int64), ib W m = true → (S.1 0 m = 1 ∨ S.1 0 m = 3) → low S (ib W) m → ib M = rm (ib W) m → (∀ v, ib A v = true ↔ (rm (ib W) m v = true ∧ cn (pG S (rm (ib W) m)) (sl S m) v)) → (∀ v, ib B v = true ↔ (rm (ib W) m v = true ∧ cn (pG S (rm (ib W) m)) (sr S m) v)) → G 174 [some (.inr (.inr (40, 0))), some (.inr (.inl W)), none, some (.inl best), some (.inl (m : Int)), some (.inr (.inl M)), none, some (.inr (.inl A)), none, some (.inr (.inl B)), none] [] σ := by
            intro M A B hw hk hl eM hA hB
            have key := spl_iff h3k hn hw hk hl eM hA hB
            refine hG 30 [76] _ _ _ _ ?_
            refine And.intro (fun c => And.intro (fun d => ?_) (fun d => ?_)) (fun c => ?_)
            · have c : sn_cmp (A &&& B) 0 = 0 := c
              have d : sn_cmp (A ||| B) M = 0 := d
              exact yes _ _ _ hw (key.mpr ⟨cmp_0.mp c, cmp_0.mp d⟩)
            · have d : ¬ sn_cmp (A ||| B) M = 0 := d
              exact no _ _ _ (fun _ s => d (cmp_0.mpr (key.mp s).2))
            · have c : ¬ sn_cmp (A &&& B) 0 = 0 := c
              exact no _ _ _ (fun _ s => c (cmp_0.mpr (key.mp s).1))
          have at122 : ib W m = true → (S.1 0 m = 1 ∨ S.1 0 m = 3) → low S (ib W) m → G 122 [some (.inr (.inr (40, 0))), some (.inr (.inl W)), none, some (.inl best), some (.inl (m : Int)), o5, none, o7, none, o9, none] [] σ := by
            intro hw hk hl
            obtain ⟨n1, n2⟩ := low_ne hl hw (by omega) hP
            have eM := ib_rm (W := W) (show m < 64 by omega)
            obtain ⟨a1, a2, -⟩ := (hok.2.1 m (by omega)).2.2.1 (by omega)
            obtain ⟨e1, e2⟩ := sl_e hok (l := m) (by omega) (by omega)
            have ix1 : 0 ≤ σ.1 50 0 m ∧ σ.1 50 0 m < (400 : Nat) := by rw [r1]; have := a1.1; have := a1.2.1; omega
            have ix2 : 0 ≤ σ.1 51 0 m ∧ σ.1 51 0 m < (400 : Nat) := by rw [r2]; have := a2.1; have := a2.2.1; omega
            have x1 : σ.1 54 0 (σ.1 50 0 m).toNat = (sl S m : Int) := by rw [r1, ← e1]; exact hm.2.1 5 _ (by omega) (by omega) (by have := a1.1; have := a1.2.1; omega)
            have x2 : σ.1 54 0 (σ.1 51 0 m).toNat = (sr S m : Int) := by rw [r2, ← e2]; exact hm.2.1 5 _ (by omega) (by omega) (by have := a2.1; have := a2.2.1; omega)
            refine hG 60 [174, 76] _ _ _ _ ?_
            refine And.intro im (And.intro ix1 (And.intro rfl ⟨T, S, sl S m, hm, hok, ?_, x1, ?_, fun A hA => And.intro im (And.intro ix2 (And.intro rfl ⟨T, S, sr S m, hm, hok, ?_, x2, ?_, fun B hB => ?_⟩))⟩))
            · show upc S (ib (W &&& (sn_shl 1 (m : Int) ^^^ (-1))))
              rw [eM]
              exact rm_up hP hl
            · show ib (W &&& (sn_shl 1 (m : Int) ^^^ (-1))) (sl S m) = true
              rw [eM]
              exact n1
            · show upc S (ib (W &&& (sn_shl 1 (m : Int) ^^^ (-1))))
              rw [eM]
              exact rm_up hP hl
            · show ib (W &&& (sn_shl 1 (m : Int) ^^^ (-1))) (sr S m) = true
              rw [eM]
              exact n2
            · have hA : ∀ v, ib A v = true ↔ (ib (W &&& (sn_shl 1 (m : Int) ^^^ (-1))) v = true ∧ cn (pG S (ib (W &&& (sn_shl 1 (m : Int) ^^^ (-1))))) (sl S m) v) := hA
              have hB : ∀ v, ib B v = true ↔ (ib (W &&& (sn_shl 1 (m : Int) ^^^ (-1))) v = true ∧ cn (pG S (ib (W &&& (sn_shl 1 (m : Int) ^^^ (-1))))) (sr S m) v) := hB
              rw [eM] at hA hB
              exact at174 _ A B hw hk hl eM hA hB
          refine hG 40 [122, 76] _ _ _ _ ?_
          refine And.intro (fun c => ?_) (fun _ => ?_)
          · have c : (m : Int) < 0 := c
            omega
          · refine md_isIn (show (m : Int) < 64 by omega) _ (fun v hv w => And.intro (fun z => absurd z (by decide)) (fun _ => And.intro im ?_)) (fun w => And.intro (fun _ => no _ _ _ (fun z => absurd z (w m rfl))) (fun z => absurd rfl z))
            have ev : v = m := by omega
            subst ev
            refine And.intro (fun c => ?_) (fun c => And.intro im (And.intro (fun d => ?_) (fun d => ?_)))
            · have c : σ.1 49 0 v = 3 := c
              rw [r0] at c
              exact at122 w (Or.inr c) ((low_iff hok hP w (by omega)).mpr (Or.inl ((hok.2.1 v (by omega)).2.2.2.2 c).1))
            · have d : σ.1 49 0 v = 1 := d
              rw [r0] at d
              exact md_last hm hok hP w (by omega) _ (fun y => And.intro (fun z => absurd z (by decide)) (fun _ => at122 w (Or.inl d) y)) (fun y => And.intro (fun _ => no _ _ _ (fun _ s => y s.2.1)) (fun z => absurd rfl z))
            · have c : ¬ σ.1 49 0 v = 3 := c
              have d : ¬ σ.1 49 0 v = 1 := d
              rw [r0] at c d
              exact no _ _ _ (fun _ s => by
                rcases s.1 with z | z
                · exact d z
                · exact c z)
      have one : ∀ (j : Nat) (x best : Int), x = (j : Int) - 1 → j ≤ S.2.1 → ((best = -1 ∧ ∀ k, j ≤ k → k < S.2.1 → ib W k = true → S.1 0 k = 2 → ¬ low S (ib W) k) ∨ ∃ t : Nat, best = (t : Int) ∧ j ≤ t ∧ ib W t = true ∧ S.1 0 t = 2 ∧ low S (ib W) t ∧ ∀ k, j ≤ k → k < t → ib W k = true → S.1 0 k = 2 → ¬ low S (ib W) k) → G 12 [some (.inr (.inr (40, 0))), some (.inr (.inl W)), none, some (.inl best), some (.inl x), none, none, none, none, none, none] [] σ := by
        intro j
        induction j with
        | zero =>
          intro x best hx _ hb
          refine hG 30 [76, 12] _ _ _ _ ?_
          refine And.intro (fun _ => And.intro (fun c => ?_) (fun c => ?_)) (fun c => ?_)
          · have c : best < 0 := c
            refine And.intro i0 (And.intro (show sn_R (σ.1 46 0 0 - 1) by rw [e46]; unfold sn_R; omega) ?_)
            refine two S.2.1 _ best none none none ?_ (Nat.le_refl _) ?_ ?_
            · show σ.1 46 0 0 - 1 = _
              rw [e46]
            · rcases hb with ⟨e, hb⟩ | ⟨t, e, -⟩
              · exact fun k hk h1 h2 => hb k (Nat.zero_le _) hk h1 h2
              · omega
            · rcases hb with ⟨e, hb⟩ | ⟨t, e, -⟩
              · exact Or.inl ⟨e, fun k h1 h2 => absurd h2 (by omega)⟩
              · omega
          · have c : 0 ≤ best := c
            rcases hb with ⟨e, hb⟩ | ⟨t, rfl, -, t1, t2, t3, t4⟩
            · omega
            · exact hpo t (Or.inl ⟨t, rfl, t1, Or.inl ⟨t2, t3, fun k hk h1 h2 => t4 k (Nat.zero_le _) hk h1 h2⟩⟩)
          · have c : 0 ≤ x := c
            omega
        | succ m ih =>
          intro x best hx hj hb
          have ex : x = (m : Int) := by omega
          subst ex
          have im : (0 : Int) ≤ (m : Int) ∧ (m : Int) < (240 : Nat) := by omega
          have r0 : σ.1 49 0 m = S.1 0 m := hm.1 0 m (by omega) (by omega)
          have no : (ib W m = true → S.1 0 m = 2 → ¬ low S (ib W) m) → sn_R ((m : Int) + -1) ∧ G 12 [some (.inr (.inr (40, 0))), some (.inr (.inl W)), none, some (.inl best), some (.inl ((m : Int) + -1)), none, none, none, none, none, none] [] σ := by
            intro hns
            refine And.intro (by unfold sn_R; omega) (ih _ best (by omega) (by omega) ?_)
            rcases hb with ⟨e, hb⟩ | ⟨t, e, t0, t1, t2, t3, t4⟩
            · refine Or.inl ⟨e, fun k h1 h2 h3 => ?_⟩
              by_cases z : k = m
              · subst z
                exact hns h3
              · exact hb k (by omega) h2 h3
            · refine Or.inr ⟨t, e, by omega, t1, t2, t3, fun k h1 h2 h3 => ?_⟩
              by_cases z : k = m
              · subst z
                exact hns h3
              · exact t4 k (by omega) h2 h3
          refine hG 40 [12] _ _ _ _ ?_
          refine And.intro (fun c => ?_) (fun _ => ?_)
          · have c : (m : Int) < 0 := c
            omega
          · refine md_isIn (show (m : Int) < 64 by omega) _ (fun v hv w => And.intro (fun z => absurd z (by decide)) (fun _ => And.intro im ?_)) (fun w => And.intro (fun _ => no (fun z => absurd z (w m rfl))) (fun z => absurd rfl z))
            have ev : v = m := by omega
            subst ev
            refine And.intro (fun c => ?_) (fun c => ?_)
            · have c : σ.1 49 0 v = 2 := c
              rw [r0] at c
              refine md_last hm hok hP w (by omega) _ (fun y => And.intro (fun z => absurd z (by decide)) (fun _ => ?_)) (fun y => And.intro (fun _ => no (fun _ _ => y)) (fun z => absurd rfl z))
              exact And.intro (by unfold sn_R; omega) (ih _ (v : Int) (by omega) (by omega) (Or.inr ⟨v, rfl, Nat.le_refl v, w, c, y, fun k h1 h2 => absurd h2 (by omega)⟩))
            · have c : ¬ σ.1 49 0 v = 2 := c
              rw [r0] at c
              exact no (fun _ z => absurd z c)
      refine hG 20 [12] _ _ _ _ ?_
      refine And.intro i0 (And.intro (show sn_R (σ.1 46 0 0 - 1) by rw [e46]; unfold sn_R; omega) ?_)
      refine one S.2.1 _ (-1) ?_ (Nat.le_refl _) (Or.inl ⟨rfl, fun k h1 h2 => absurd h2 (by omega)⟩)
      show σ.1 46 0 0 - 1 = _
      rw [e46]
    · exact h.elim
