/-! The class's judgement: all switchings, level by level. -/
theorem and_one {n : Nat} (h : n < 2147483648) : sn_and (n : Int) 1 = ((n % 2 : Nat) : Int) := by
  unfold sn_and
  have e : Int32.ofInt (n : Int) = nI n := Int32.ofInt_eq_ofNat
  have h1 := pk_andN (n := n) (by omega) (m := 1) 1 (by decide)
  rw [e, show Int32.ofInt 1 = (1 : Int32) from rfl, h1, nI_toInt (by omega)]
theorem div_nat (s k : Nat) : (s : Int) / 2 ^ k = ((s / 2 ^ k : Nat) : Int) := by
  rw [Int.natCast_ediv, Int.natCast_pow]
  rfl
theorem bt_s_nat {s : Nat} (h : s < 2147483648) (k : Nat) : bt_s (s : Int) k ↔ s / 2 ^ k % 2 = 1 := by
  unfold bt_s
  rw [div_nat, and_one (Nat.lt_of_le_of_lt (Nat.div_le_self _ _) h)]
  omega
theorem div_up {s t : Nat} (h : s / 2 ^ t % 2 = 1) {j : Nat} (hj : t + 1 ≤ j) : (s - 1) / 2 ^ j = s / 2 ^ j := by
  have hp : 0 < 2 ^ t := Nat.pow_pos (by decide)
  have h1 : (s - 1) / 2 ^ (t + 1) = s / 2 ^ (t + 1) := by
    have e : 2 ^ (t + 1) = 2 ^ t * 2 := Nat.pow_succ 2 t
    have d1 := Nat.div_add_mod s (2 ^ t)
    have d2 := Nat.div_add_mod (s / 2 ^ t) 2
    have hm := Nat.mod_lt s hp
    rw [h] at d2
    generalize s / 2 ^ t / 2 = q at d2
    have es : s = 2 ^ t * 2 * q + (2 ^ t + s % 2 ^ t) := by
      have : 2 ^ t * (s / 2 ^ t) = 2 ^ t * (2 * q + 1) := by rw [d2]
      rw [Nat.mul_add, ← Nat.mul_assoc] at this
      omega
    have a1 : s / 2 ^ (t + 1) = q := by
      rw [e]
      refine Nat.div_eq_of_lt_le ?_ ?_
      · rw [Nat.mul_comm]; omega
      · rw [Nat.mul_comm, Nat.mul_add]; omega
    have a2 : (s - 1) / 2 ^ (t + 1) = q := by
      rw [e]
      refine Nat.div_eq_of_lt_le ?_ ?_
      · rw [Nat.mul_comm]; omega
      · rw [Nat.mul_comm, Nat.mul_add]; omega
    rw [a1, a2]
  have e2 : 2 ^ j = 2 ^ (t + 1) * 2 ^ (j - (t + 1)) := by rw [← Nat.pow_add]; congr 1; omega
  rw [e2, ← Nat.div_div_eq_div_mul, ← Nat.div_div_eq_div_mul, h1]
/-- the premise that the switching s chooses at the par link l, the k-th one -/
def cs_w (σ : sn_M) (i : Nat) (s : Int) (k l : Nat) : Int := if sn_and (s / 2 ^ k) 1 = 1 then σ.1 12 i l else σ.1 11 i l
def cs_x (σ : sn_M) (i : Nat) (s : Int) (k l : Nat) : Nat × Nat := ((σ.1 15 i (cs_w σ i s k l).toNat).toNat, l)
def cs_pars (σ : sn_M) (i : Nat) : List Nat := cs_pl (σ.1 10 i) (σ.1 9 i 9).toNat
/-- the edges of a switching in the order in which they are joined: d par links have chosen, from the last one on -/
def cs_Q (σ : sn_M) (i : Nat) (s : Int) (d : Nat) : List (Nat × Nat) := match d with
  | 0 => cs_B (σ.1 10 i) (σ.1 11 i) (σ.1 12 i) (σ.1 15 i) (σ.1 9 i 9).toNat
  | d + 1 => cs_Q σ i s d ++ [cs_x σ i s ((cs_pars σ i).length - 1 - d) ((cs_pars σ i).getD ((cs_pars σ i).length - 1 - d) 0)]
theorem cs_Q_s (σ : sn_M) (i : Nat) (s : Int) (d : Nat) : cs_Q σ i s (d + 1) = cs_Q σ i s d ++ [cs_x σ i s ((cs_pars σ i).length - 1 - d) ((cs_pars σ i).getD ((cs_pars σ i).length - 1 - d) 0)] := rfl
theorem cs_Q_eq (σ : sn_M) (i : Nat) {s s' : Int} : ∀ d, d ≤ (cs_pars σ i).length → (∀ j : Nat, (cs_pars σ i).length - d ≤ j → s / 2 ^ j = s' / 2 ^ j) → cs_Q σ i s d = cs_Q σ i s' d := by
  intro d
  induction d with
  | zero => intro _ _; rfl
  | succ d ih =>
    intro hd h
    rw [cs_Q_s, cs_Q_s, ih (by omega) (fun j hj => h j (by omega))]
    congr 2
    unfold cs_x cs_w
    rw [h _ (by omega)]
def cs_g (σ : sn_M) (i : Nat) (s : Nat) : Int := gr_v (cs_Q σ i (s : Int) (cs_pars σ i).length) (σ.1 9 i 11)
def cs_all (σ : sn_M) (i : Nat) : Nat := 2 ^ (cs_pars σ i).length
def cs_v (σ : sn_M) (i : Nat) : Int := if 0 ≤ jd_f (cs_g σ i) 1 (cs_all σ i) then 1 else if 0 ≤ jd_f (cs_g σ i) 2 (cs_all σ i) then 2 else 0
def cs_fa (σ : sn_M) (i : Nat) : Int := if 0 ≤ jd_f (cs_g σ i) 1 (cs_all σ i) then jd_f (cs_g σ i) 1 (cs_all σ i) else jd_f (cs_g σ i) 2 (cs_all σ i)
theorem jd_none {g : Nat → Int} {x : Int} : ∀ n, (∀ s, s < n → g s ≠ x) → jd_f g x n = -1 := by
  intro n
  induction n with
  | zero => intro _; rfl
  | succ n ih =>
    intro h
    rw [jd_f_s, if_neg (fun z => h n (by omega) z.1)]
    exact ih (fun s hs => h s (by omega))
theorem jd_first {g : Nat → Int} {x : Int} {s : Nat} (hs : g s = x) (hno : ∀ t, t < s → g t ≠ x) : ∀ n, s < n → jd_f g x n = (s : Int) := by
  intro n
  induction n with
  | zero => intro h; omega
  | succ n ih =>
    intro h
    rw [jd_f_s]
    by_cases e : s = n
    · subst e
      rw [if_pos ⟨hs, by rw [jd_none s hno]; decide⟩]
    · have := ih (by omega)
      rw [this, if_neg (fun z => by have := z.2; omega)]
theorem jd_m1 (g : Nat → Int) (x : Int) : ∀ n, jd_f g x n = -1 ∨ 0 ≤ jd_f g x n := by
  intro n
  induction n with
  | zero => exact Or.inl rfl
  | succ n ih =>
    rw [jd_f_s]
    split
    · exact Or.inr (by omega)
    · exact ih
def sw_R (w : Nat) (a b c : Nat) : Prop := (a = 21 ∧ 9 * w ≤ b ∧ b < 9 * w + 9) ∨ (a = 22 ∧ b = w) ∨ (a = 23 ∧ b = w) ∨ (a = 24 ∧ b = w) ∨ (a = 19 ∧ b = w ∧ c = 4)
def sp_SW_weigh : sn_P := fun vs σ po => match vs with
  | [.inr (.inr q), .inr (.inr t)] => q.1 = 19 ∧ t.1 = 9 ∧ st_in σ t.2 ∧ (0 ≤ σ.1 9 t.2 10 ∧ σ.1 9 t.2 10 ≤ 100) ∧ ∀ (v f : Int) (σ' : sn_M), ((cs_cp σ t.2 ∧ v = cs_v σ t.2 ∧ f = cs_fa σ t.2) ∨ (¬ cs_cp σ t.2 ∧ v = 3 ∧ f = -1)) → σ'.1 19 q.2 4 = f → sn_fr (sw_R q.2) σ σ' → po (some (.inl v)) σ'
  | _ => False
def ca_SW_weigh : List (Nat × Nat × Nat × sn_P) := [(31, 1, 5, sp_ST_isComplete), (37, 2, 6, sp_SW_joinWithoutPars), (44, 2, 0, sp_SW_lastChanged), (48, 4, 6, sp_SW_choose)]
theorem co_SW_weigh : ∀ x n ci s', sn_lk ca_SW_weigh x = some (n, ci, s') → sn_CO "SwitchedNets$Switchings" sn_ws 3 x n ci s' := sn_co_of (List.forall_mem_cons.mpr ⟨sn_CO_V ("SwitchedNets$Structure", T_ST, 15) ct_ST_isComplete (by decide) (by decide) (sn_gV ml_SW_31 mi_ST_isComplete ms_ST_isComplete mz_ST mc_ST_isComplete) (by decide) rfl rfl ⟨nh_ST.1, nh_ST.2, pn_ST_isComplete⟩, List.forall_mem_cons.mpr ⟨sn_CO_V ("SwitchedNets$Switchings", T_SW, 5) ct_SW_joinWithoutPars (by decide) (by decide) (sn_gV ml_SW_37 mi_SW_joinWithoutPars ms_SW_joinWithoutPars mz_SW mc_SW_joinWithoutPars) (by decide) rfl rfl ⟨nh_SW.1, nh_SW.2, pn_SW_joinWithoutPars⟩, List.forall_mem_cons.mpr ⟨sn_CO_S ct_SW_lastChanged (by decide) (by decide) (sn_gS ml_SW_44 mt_SW_lastChanged mz_SW mc_SW_lastChanged) ⟨nh_SW.1, nh_SW.2, pn_SW_lastChanged⟩, List.forall_mem_cons.mpr ⟨sn_CO_V ("SwitchedNets$Switchings", T_SW, 5) ct_SW_choose (by decide) (by decide) (sn_gV ml_SW_48 mi_SW_choose ms_SW_choose mz_SW mc_SW_choose) (by decide) rfl rfl ⟨nh_SW.1, nh_SW.2, pn_SW_choose⟩, fun _ h => absurd h List.not_mem_nil⟩⟩⟩⟩)
set_option maxHeartbeats 1000000 in
theorem ct_SW_weigh : sn_CT y_SW_weigh ws_SW_weigh 3 sp_SW_weigh := by
  refine sn_CT_of (pr := pr_SW_weigh) (fi := (sn_lk ft_SW)) (lc := sn_no) (ca := sn_lk ca_SW_weigh) pl_SW ?_ pk_SW_weigh FI_SW (sn_no_ok _) co_SW_weigh ?_
  · intro vs σ post h
    unfold sp_SW_weigh at h
    split at h
    · exact Nat.le_of_ble_eq_true rfl
    · exact h.elim
  · intro vs σ post h hvs hR
    unfold sp_SW_weigh at h
    split at h
    · next q t =>
      obtain ⟨a, w⟩ := q
      obtain ⟨a2, i⟩ := t
      obtain ⟨ha, ha2, hin, ⟨hne0, hne1⟩, h⟩ := h
      have ha : a = 19 := ha
      subst ha
      have ha2 : a2 = 9 := ha2
      subst ha2
      intro G hG
      have hin : st_in σ i := hin
      have hin2 := hin
      obtain ⟨⟨hN0, hN1⟩, ⟨hC0, hC1⟩, ⟨hPe, hP8⟩, hlk⟩ := hin2
      have hne0 : 0 ≤ σ.1 9 i 10 := hne0
      have hne1 : σ.1 9 i 10 ≤ 100 := hne1
      have h : ∀ (v f : Int) (σ' : sn_M), ((cs_cp σ i ∧ v = cs_v σ i ∧ f = cs_fa σ i) ∨ (¬ cs_cp σ i ∧ v = 3 ∧ f = -1)) → σ'.1 19 w 4 = f → sn_fr (sw_R w) σ σ' → post (some (.inl v)) σ' := h
      obtain ⟨N, hN⟩ := Int.eq_ofNat_of_zero_le hN0
      have eN : (σ.1 9 i 9).toNat = N := by rw [hN]; rfl
      have hPl : ((cs_pars σ i).length : Int) = σ.1 9 i 12 := by rw [hPe]; exact cs_pl_l _ _
      have hpn : ∀ (k l : Nat), (cs_pars σ i)[k]? = some l → l < N ∧ σ.1 10 i l = 2 := by
        intro k l hkl
        have := (cs_pl_in (σ.1 10 i) (σ.1 9 i 9).toNat l).mp (List.mem_of_getElem? hkl)
        rw [eN] at this
        exact this
      generalize hPd : (cs_pars σ i).length = P at hPl
      have eP : (σ.1 9 i 12).toNat = P := by rw [← hPl]; rfl
      have hP9 : P ≤ 8 := by omega
      have hall : cs_all σ i ≤ 256 := by
        unfold cs_all
        rw [hPd]
        have : 2 ^ P ≤ 2 ^ 8 := Nat.pow_le_pow_right (by decide) hP9
        omega
      have eall : (1 : Int) * 2 ^ (σ.1 9 i 12).toNat = ((cs_all σ i : Nat) : Int) := by
        unfold cs_all
        rw [hPd, eP, Int.one_mul, Int.natCast_pow]
        rfl
      have st : ∀ {σ1 : sn_M}, sn_fr (sw_R w) σ σ1 → ∀ (a c : Nat), a < 19 → σ1.1 a i c = σ.1 a i c := fun hf a c ha => hf.2 a i c (fun z => by rcases z with z | z | z | z | z <;> (have := z.1; omega))
      -- one switching, from the level m on downwards
      have inner : ∀ (s : Nat) (fl : Int), s < cs_all σ i → (∀ σ1, sn_fr (sw_R w) σ σ1 → (∀ (k l : Nat), (cs_pars σ i)[k]? = some l → σ1.1 24 w k = (l : Int)) → (∀ k, k ≤ P → sw_L σ1 w N (σ.1 9 i 11) k (cs_Q σ i (s : Int) (P - k))) → G 43 [some (.inr (.inr (19, w))), some (.inr (.inr (9, i))), some (.inl fl), some (.inl (s : Int)), some (.inl (-1))] [] σ1) →
          ∀ (m : Nat) (σ1 : sn_M), m ≤ P → sn_fr (sw_R w) σ σ1 → (∀ (k l : Nat), (cs_pars σ i)[k]? = some l → σ1.1 24 w k = (l : Int)) → (∀ k, m ≤ k → k ≤ P → sw_L σ1 w N (σ.1 9 i 11) k (cs_Q σ i (s : Int) (P - k))) →
          G 43 [some (.inr (.inr (19, w))), some (.inr (.inr (9, i))), some (.inl fl), some (.inl (s : Int)), some (.inl ((m : Int) - 1))] [] σ1 := by
        intro s fl hs hdone m
        induction m with
        | zero =>
          intro σ1 _ hf hpl hL
          exact hdone σ1 hf hpl (fun k hk => hL k (by omega) hk)
        | succ m ih =>
          intro σ1 hm hf hpl hL
          obtain ⟨l, hl⟩ : ∃ l, (cs_pars σ i)[m]? = some l := ⟨_, List.getElem?_eq_getElem (by omega)⟩
          obtain ⟨hlN, hl2⟩ := hpn m l hl
          obtain ⟨⟨l0, l1⟩, ⟨r0, r1⟩, ⟨f0, f1⟩, ⟨g0, g1⟩⟩ := hlk l (by omega) (by omega)
          have hp24 := hpl m l hl
          have hkk : (((m + 1 : Nat) : Int) - 1) = (m : Int) := by omega
          have hd1 : P - m = (P - (m + 1)) + 1 := by omega
          have hget : (cs_pars σ i).getD m 0 = l := by rw [List.getD_eq_getElem?_getD, hl]; rfl
          -- behind the call
          have fin : ∀ (rb : Int), (rb = 0 ∨ rb = 1) → (rb = 1 ↔ sn_and ((s : Int) / 2 ^ m) 1 = 1) →
              sn_iv 4 6 sp_SW_choose [.inl rb, .inl (m : Int), .inr (.inr (9, i)), .inr (.inr (19, w))] σ1 (fun r S σ' => sn_R ((m : Int) + -1) ∧ G 43 [some (.inr (.inr (19, w))), some (.inr (.inr (9, i))), some (.inl fl), some (.inl (s : Int)), some (.inl ((m : Int) + -1))] [] σ') := by
            intro rb hrb hbit
            have ew : cs_ch σ1 i (¬ rb = 0) l = cs_w σ i (s : Int) m l := by
              unfold cs_ch cs_w
              by_cases hb : sn_and ((s : Int) / 2 ^ m) 1 = 1
              · rw [if_pos (by have := hbit.mpr hb; omega), if_pos hb]
                exact st hf 12 l (by decide)
              · rw [if_neg (by intro z; rcases hrb with hrb | hrb; exact z hrb; exact hb (hbit.mp hrb)), if_neg hb]
                exact st hf 11 l (by decide)
            have e15 : σ1.1 15 i (cs_ch σ1 i (¬ rb = 0) l).toNat = σ.1 15 i (cs_w σ i (s : Int) m l).toNat := by rw [ew]; exact st hf 15 _ (by decide)
            have hwb : (0 ≤ cs_w σ i (s : Int) m l ∧ cs_w σ i (s : Int) m l < 100) ∧ 0 ≤ σ.1 15 i (cs_w σ i (s : Int) m l).toNat ∧ σ.1 15 i (cs_w σ i (s : Int) m l).toNat < (N : Int) := by
              unfold cs_w
              split
              · exact ⟨⟨r0, r1⟩, g0, by omega⟩
              · exact ⟨⟨l0, l1⟩, f0, by omega⟩
            refine And.intro rfl (And.intro rfl (And.intro ⟨by omega, by omega⟩ ⟨N, σ.1 9 i 11, cs_Q σ i (s : Int) (P - (m + 1)), l, by omega, ⟨hC0, hC1⟩, by rw [← hN]; exact st hf 9 9 (by decide), hp24, hlN, by rw [ew]; exact hwb.1, by rw [e15]; exact hwb.2, hL (m + 1) (by omega) hm, fun σ' hL' hf' => ?_⟩))
            have hL' : sw_L σ' w N (σ.1 9 i 11) m (cs_Q σ i (s : Int) (P - (m + 1)) ++ [((σ1.1 15 i (cs_ch σ1 i (¬ rb = 0) l).toNat).toNat, l)]) := hL'
            have hf' : sn_fr (sw_P w m) σ1 σ' := hf'
            have hfw : sn_fr (sw_R w) σ1 σ' := sn_fr_w hf' (fun a b c z => by
              rcases z with z | z | z
              · exact Or.inl ⟨z.1, by omega, by omega⟩
              · exact Or.inr (Or.inl ⟨z.1, z.2.1⟩)
              · exact Or.inr (Or.inr (Or.inl ⟨z.1, z.2.1⟩)))
            refine And.intro ⟨by omega, by omega⟩ ?_
            refine ih σ' (by omega) (sn_fr_t hf hfw) (fun k l' hkl => ?_) (fun k hk1 hk2 => ?_)
            · rw [hf'.2 24 w k (fun z => by rcases z with z | z | z <;> (have := z.1; omega))]
              exact hpl k l' hkl
            · by_cases e : k = m
              · subst e
                rw [hd1, cs_Q_s]
                have e1 : (cs_pars σ i).length - 1 - (P - (k + 1)) = k := by omega
                rw [e1, hget]
                unfold cs_x
                rw [e15] at hL'
                exact hL'
              · exact sw_L_fr (hL k (by omega) hk2) (fun x => hf'.2 21 (9 * w + k) x (fun z => by rcases z with z | z | z; omega; (have := z.1; omega); (have := z.1; omega))) (hf'.2 22 w k (fun z => by rcases z with z | z | z; (have := z.1; omega); (have := z.2.2; omega); (have := z.1; omega))) (hf'.2 23 w k (fun z => by rcases z with z | z | z; (have := z.1; omega); (have := z.1; omega); (have := z.2.2; omega)))
          rw [hkk]
          refine hG 90 [43] _ _ _ _ ?_
          refine And.intro (fun c1 => ?_) (fun c1 => And.intro ⟨by omega, by omega⟩ (And.intro (fun c2 => ?_) (fun c2 => ?_)))
          · have c1 : (m : Int) < 0 := c1
            omega
          · exact fin 1 (Or.inr rfl) ⟨fun _ => c2, fun _ => rfl⟩
          · exact fin 0 (Or.inl rfl) ⟨fun z => absurd z (by decide), fun z => absurd z c2⟩
      have outer : cs_cp σ i → ∀ (d s : Nat) (σ1 : sn_M) (o4 : Option sn_V), cs_all σ i - s = d → s ≤ cs_all σ i → sn_fr (sw_R w) σ σ1 → (∀ (k l : Nat), (cs_pars σ i)[k]? = some l → σ1.1 24 w k = (l : Int)) → (∀ k, k ≤ P → (0 < s ∨ k = P) → sw_L σ1 w N (σ.1 9 i 11) k (cs_Q σ i ((s - 1 : Nat) : Int) (P - k))) → (∀ t, t < s → cs_g σ i t ≠ 1) →
          G 23 [some (.inr (.inr (19, w))), some (.inr (.inr (9, i))), some (.inl (jd_f (cs_g σ i) 2 s)), some (.inl (s : Int)), o4] [] σ1 := by
        intro hcp d
        induction d with
        | zero =>
          intro s σ1 o4 hd hs hf hpl hL hno
          have e : s = cs_all σ i := by omega
          have e12 : σ1.1 9 i 12 = σ.1 9 i 12 := st hf 9 12 (by decide)
          have h1 : jd_f (cs_g σ i) 1 (cs_all σ i) = -1 := by rw [← e]; exact jd_none s hno
          refine hG 90 [23] _ _ _ _ ?_
          refine And.intro ?_ (And.intro (fun c1 => ?_) (fun c1 => ?_))
          · show (0 : Int) ≤ σ1.1 9 i 12 ∧ σ1.1 9 i 12 < 32 ∧ sn_R (1 * 2 ^ (σ1.1 9 i 12).toNat)
            rw [e12, eall]
            exact ⟨by omega, by omega, by omega, by omega⟩
          · have c1 : (s : Int) < 1 * 2 ^ (σ1.1 9 i 12).toNat := c1
            rw [e12, eall] at c1
            omega
          · have hfin : ∀ v : Int, v = cs_v σ i → post (some (.inl v)) (sn_u σ1.1 19 w 4 (jd_f (cs_g σ i) 2 s), σ1.2) := by
              intro v hv
              refine h v (jd_f (cs_g σ i) 2 s) _ (Or.inl ⟨hcp, hv, ?_⟩) sn_u_s (sn_fr_t hf ⟨rfl, fun a b c hn => sn_u_n (fun z => hn (Or.inr (Or.inr (Or.inr (Or.inr z)))))⟩)
              unfold cs_fa
              rw [h1, if_neg (by decide), e]
            refine And.intro (fun c2 => hfin 0 ?_) (fun c2 => hfin 2 ?_)
            · have c2 : jd_f (cs_g σ i) 2 s = -1 := c2
              unfold cs_v
              rw [h1, if_neg (by decide), if_neg (by rw [← e, c2]; decide)]
            · have c2 : ¬ jd_f (cs_g σ i) 2 s = -1 := c2
              unfold cs_v
              rw [h1, if_neg (by decide), if_pos (by rw [← e]; rcases jd_m1 (cs_g σ i) 2 s with z | z; exact absurd z c2; exact z)]
        | succ d ih =>
          intro s σ1 o4 hd hs hf hpl hL hno
          have e12 : σ1.1 9 i 12 = σ.1 9 i 12 := st hf 9 12 (by decide)
          have hslt : s < cs_all σ i := by omega
          have hs31 : s < 2147483648 := by omega
          refine hG 90 [23, 43] _ _ _ _ ?_
          refine And.intro ?_ (And.intro (fun c1 => ?_) (fun c1 => ?_))
          · show (0 : Int) ≤ σ1.1 9 i 12 ∧ σ1.1 9 i 12 < 32 ∧ sn_R (1 * 2 ^ (σ1.1 9 i 12).toNat)
            rw [e12, eall]
            exact ⟨by omega, by omega, by omega, by omega⟩
          · -- behind the levels
            have done : ∀ σ2, sn_fr (sw_R w) σ σ2 → (∀ (k l : Nat), (cs_pars σ i)[k]? = some l → σ2.1 24 w k = (l : Int)) → (∀ k, k ≤ P → sw_L σ2 w N (σ.1 9 i 11) k (cs_Q σ i (s : Int) (P - k))) → G 43 [some (.inr (.inr (19, w))), some (.inr (.inr (9, i))), some (.inl (jd_f (cs_g σ i) 2 s)), some (.inl (s : Int)), some (.inl (-1))] [] σ2 := by
              intro σ2 hf2 hpl2 hL2
              have hL0 := hL2 0 (by omega)
              rw [Nat.sub_zero] at hL0
              obtain ⟨-, -, hp22, hp23⟩ := hL0
              have hr : sn_R ((s : Int) + 1) := ⟨by omega, by omega⟩
              have eg : cs_g σ i s = gr_v (cs_Q σ i (s : Int) P) (σ.1 9 i 11) := by unfold cs_g; rw [hPd]
              unfold gr_v at eg
              have go : ∀ (fl : Int) (o4 : Option sn_V), cs_g σ i s ≠ 1 → fl = jd_f (cs_g σ i) 2 (s + 1) → G 23 [some (.inr (.inr (19, w))), some (.inr (.inr (9, i))), some (.inl fl), some (.inl ((s : Int) + 1)), o4] [] σ2 := by
                intro fl o4 hg hfl
                subst hfl
                refine ih (s + 1) σ2 o4 (by omega) (by omega) hf2 hpl2 (fun k hk _ => hL2 k hk) (fun t ht => ?_)
                by_cases e : t = s
                · subst e; exact hg
                · exact hno t (by omega)
              refine hG 90 [23, 43] _ _ _ _ ?_
              have hb9 : (0 : Int) ≤ 0 ∧ (0 : Int) < (9 : Nat) := ⟨by decide, by decide⟩
              refine And.intro (fun _ => And.intro hb9 (And.intro (fun c2 => And.intro hb9 (And.intro (fun c3 => And.intro hr (go _ _ ?_ ?_)) (fun c3 => And.intro (fun c4 => And.intro hr (go _ _ ?_ ?_)) (fun c4 => And.intro hr (go _ _ ?_ ?_))))) (fun c2 => ?_))) (fun z => absurd z (by decide))
              · have c2 : σ2.1 23 w 0 = 0 := c2
                have c3 : σ2.1 22 w 0 ≤ 1 := c3
                rw [hp23] at c2
                rw [hp22] at c3
                by_cases hz : (jn_run (cs_Q σ i (s : Int) P) (fun x => x)).2 < (cs_Q σ i (s : Int) P).length
                · rw [if_pos hz] at c2; exact absurd c2 (by decide)
                · rw [if_neg hz, if_neg (by omega)] at eg
                  rw [eg]; decide
              · have c2 : σ2.1 23 w 0 = 0 := c2
                have c3 : σ2.1 22 w 0 ≤ 1 := c3
                rw [hp23] at c2
                rw [hp22] at c3
                by_cases hz : (jn_run (cs_Q σ i (s : Int) P) (fun x => x)).2 < (cs_Q σ i (s : Int) P).length
                · rw [if_pos hz] at c2; exact absurd c2 (by decide)
                · rw [if_neg hz, if_neg (by omega)] at eg
                  rw [jd_f_s, if_neg (fun z => by have z1 := z.1; rw [eg] at z1; exact absurd z1 (by decide))]
              · have c2 : σ2.1 23 w 0 = 0 := c2
                have c3 : 1 < σ2.1 22 w 0 := c3
                rw [hp23] at c2
                rw [hp22] at c3
                by_cases hz : (jn_run (cs_Q σ i (s : Int) P) (fun x => x)).2 < (cs_Q σ i (s : Int) P).length
                · rw [if_pos hz] at c2; exact absurd c2 (by decide)
                · rw [if_neg hz, if_pos c3] at eg
                  rw [eg]; decide
              · have c2 : σ2.1 23 w 0 = 0 := c2
                have c3 : 1 < σ2.1 22 w 0 := c3
                have c4 : jd_f (cs_g σ i) 2 s = -1 := c4
                rw [hp23] at c2
                rw [hp22] at c3
                by_cases hz : (jn_run (cs_Q σ i (s : Int) P) (fun x => x)).2 < (cs_Q σ i (s : Int) P).length
                · rw [if_pos hz] at c2; exact absurd c2 (by decide)
                · rw [if_neg hz, if_pos c3] at eg
                  rw [jd_f_s, if_pos ⟨eg, by rw [c4]; decide⟩]
              · have c2 : σ2.1 23 w 0 = 0 := c2
                have c3 : 1 < σ2.1 22 w 0 := c3
                rw [hp23] at c2
                rw [hp22] at c3
                by_cases hz : (jn_run (cs_Q σ i (s : Int) P) (fun x => x)).2 < (cs_Q σ i (s : Int) P).length
                · rw [if_pos hz] at c2; exact absurd c2 (by decide)
                · rw [if_neg hz, if_pos c3] at eg
                  rw [eg]; decide
              · have c4 : ¬ jd_f (cs_g σ i) 2 s = -1 := c4
                rw [jd_f_s, if_neg (fun z => by have z2 := z.2; rcases jd_m1 (cs_g σ i) 2 s with y | y; exact c4 y; omega)]
              · have c2 : ¬ σ2.1 23 w 0 = 0 := c2
                rw [hp23] at c2
                by_cases hz : (jn_run (cs_Q σ i (s : Int) P) (fun x => x)).2 < (cs_Q σ i (s : Int) P).length
                · rw [if_pos hz] at eg
                  have hj := jd_first eg hno (cs_all σ i) hslt
                  refine h 1 (s : Int) _ (Or.inl ⟨hcp, ?_, ?_⟩) sn_u_s (sn_fr_t hf2 ⟨rfl, fun a b c hn => sn_u_n (fun z => hn (Or.inr (Or.inr (Or.inr (Or.inr z)))))⟩)
                  · unfold cs_v
                    rw [hj, if_pos (by omega)]
                  · unfold cs_fa
                    rw [hj, if_pos (by omega)]
                · rw [if_neg hz] at c2
                  exact absurd rfl c2
            refine And.intro ⟨by show 0 ≤ σ1.1 9 i 12; rw [e12]; omega, by show σ1.1 9 i 12 ≤ 8; rw [e12]; exact hP8⟩ (fun x hx => ?_)
            have start := inner s (jd_f (cs_g σ i) 2 s) hslt done
            rcases hx with ⟨k, hk, rfl, hb, -⟩ | ⟨rfl, -⟩
            · have hk : (k : Int) < σ1.1 9 i 12 := hk
              rw [e12] at hk
              have hb2 := (bt_s_nat hs31 k).mp hb
              have hs0 : 0 < s := by
                by_cases z : s = 0
                · subst z; rw [Nat.zero_div] at hb2; exact absurd hb2 (by decide)
                · omega
              have g := start (k + 1) σ1 (by omega) hf hpl (fun k' hk1 hk2 => by
                have hq := hL k' hk2 (Or.inl hs0)
                rw [cs_Q_eq σ i (s := (s : Int)) (s' := ((s - 1 : Nat) : Int)) (P - k') (by omega) (fun j hj => by
                  rw [div_nat, div_nat, div_up hb2 (by omega)])]
                exact hq)
              rw [show (((k + 1 : Nat) : Int) - 1) = (k : Int) by omega] at g
              exact g
            · have g := start P σ1 (by omega) hf hpl (fun k' hk1 hk2 => by
                have ek : k' = P := by omega
                subst ek
                have hq := hL k' (by omega) (Or.inr rfl)
                rw [Nat.sub_self] at hq ⊢
                exact hq)
              rw [hPl, ← e12] at g
              exact g
          · have c1 : 1 * 2 ^ (σ1.1 9 i 12).toNat ≤ (s : Int) := c1
            rw [e12, eall] at c1
            omega
      have hf0 : sn_fr (sw_R w) σ (sn_u σ.1 19 w 4 (-1), σ.2) := ⟨rfl, fun a b c hn => sn_u_n (fun z => hn (Or.inr (Or.inr (Or.inr (Or.inr z)))))⟩
      have e9 : ∀ c, sn_u σ.1 19 w 4 (-1) 9 i c = σ.1 9 i c := fun c => sn_u_n (fun z => absurd z.1 (by decide))
      have cpe : cs_cp (sn_u σ.1 19 w 4 (-1), σ.2) i ↔ cs_cp σ i := by
        unfold cs_cp
        have ea : ∀ (a c : Nat), a ≠ 19 → sn_u σ.1 19 w 4 (-1) a i c = σ.1 a i c := fun a c ha => sn_u_n (fun z => ha z.1)
        show (0 < sn_u σ.1 19 w 4 (-1) 9 i 11 ∧ ∀ e : Nat, (e : Int) < sn_u σ.1 19 w 4 (-1) 9 i 10 → ¬ ((0 ≤ (e : Int) ∧ (e : Int) < sn_u σ.1 19 w 4 (-1) 9 i 10 ∧ ¬ sn_u σ.1 19 w 4 (-1) 14 i (e : Int).toNat = -1) ∧ sn_u σ.1 19 w 4 (-1) 16 i (e : Int).toNat = -1 ∧ sn_u σ.1 19 w 4 (-1) 17 i (e : Int).toNat = -1)) ↔ _
        simp only [ea 9 _ (by decide), ea 14 _ (by decide), ea 16 _ (by decide), ea 17 _ (by decide)]
      refine hG 90 [23] _ _ _ _ ?_
      refine And.intro rfl (And.intro ⟨by show 0 ≤ sn_u σ.1 19 w 4 (-1) 9 i 10; rw [e9]; exact hne0, by show sn_u σ.1 19 w 4 (-1) 9 i 10 ≤ 100; rw [e9]; exact hne1⟩ (fun x hx => And.intro (fun c1 => ?_) (fun c1 => ?_)))
      · rcases hx with ⟨rfl, -⟩ | ⟨rfl, hx⟩
        · exact absurd c1 (by decide)
        · exact h 3 (-1) _ (Or.inr ⟨fun z => hx (cpe.mpr z), rfl, rfl⟩) sn_u_s hf0
      · rcases hx with ⟨rfl, hx⟩ | ⟨rfl, -⟩
        · have hcp := cpe.mp hx
          have ea : ∀ (a : Nat), a ≠ 19 → (sn_u σ.1 19 w 4 (-1)) a i = σ.1 a i := fun a ha => funext fun c => sn_u_n (fun z => ha z.1)
          refine And.intro rfl (And.intro rfl (And.intro ?_ (fun σ1 hL hpl hf => ?_)))
          · show st_in (sn_u σ.1 19 w 4 (-1), σ.2) i
            unfold st_in
            show (0 ≤ sn_u σ.1 19 w 4 (-1) 9 i 9 ∧ sn_u σ.1 19 w 4 (-1) 9 i 9 ≤ 60) ∧ (0 ≤ sn_u σ.1 19 w 4 (-1) 9 i 11 ∧ sn_u σ.1 19 w 4 (-1) 9 i 11 ≤ 60) ∧ (sn_u σ.1 19 w 4 (-1) 9 i 12 = cn_ct (sn_u σ.1 19 w 4 (-1) 10 i) 2 (sn_u σ.1 19 w 4 (-1) 9 i 9).toNat ∧ sn_u σ.1 19 w 4 (-1) 9 i 12 ≤ 8) ∧
              ∀ l : Nat, (l : Int) < sn_u σ.1 19 w 4 (-1) 9 i 9 → 1 ≤ sn_u σ.1 19 w 4 (-1) 10 i l → (0 ≤ sn_u σ.1 19 w 4 (-1) 11 i l ∧ sn_u σ.1 19 w 4 (-1) 11 i l < 100) ∧ (0 ≤ sn_u σ.1 19 w 4 (-1) 12 i l ∧ sn_u σ.1 19 w 4 (-1) 12 i l < 100) ∧ (0 ≤ sn_u σ.1 19 w 4 (-1) 15 i (sn_u σ.1 19 w 4 (-1) 11 i l).toNat ∧ sn_u σ.1 19 w 4 (-1) 15 i (sn_u σ.1 19 w 4 (-1) 11 i l).toNat < sn_u σ.1 19 w 4 (-1) 9 i 9) ∧ (0 ≤ sn_u σ.1 19 w 4 (-1) 15 i (sn_u σ.1 19 w 4 (-1) 12 i l).toNat ∧ sn_u σ.1 19 w 4 (-1) 15 i (sn_u σ.1 19 w 4 (-1) 12 i l).toNat < sn_u σ.1 19 w 4 (-1) 9 i 9)
            rw [ea 9 (by decide), ea 10 (by decide), ea 11 (by decide), ea 12 (by decide), ea 15 (by decide)]
            exact hin
          · have hL : sw_L σ1 w (sn_u σ.1 19 w 4 (-1) 9 i 9).toNat (sn_u σ.1 19 w 4 (-1) 9 i 11) (sn_u σ.1 19 w 4 (-1) 9 i 12).toNat (cs_B (sn_u σ.1 19 w 4 (-1) 10 i) (sn_u σ.1 19 w 4 (-1) 11 i) (sn_u σ.1 19 w 4 (-1) 12 i) (sn_u σ.1 19 w 4 (-1) 15 i) (sn_u σ.1 19 w 4 (-1) 9 i 9).toNat) := hL
            have hpl : ∀ (k l : Nat), (cs_pl (sn_u σ.1 19 w 4 (-1) 10 i) (sn_u σ.1 19 w 4 (-1) 9 i 9).toNat)[k]? = some l → σ1.1 24 w k = (l : Int) := hpl
            have hf : sn_fr (sw_Q w (sn_u σ.1 19 w 4 (-1) 9 i 12).toNat) (sn_u σ.1 19 w 4 (-1), σ.2) σ1 := hf
            rw [ea 9 (by decide), ea 10 (by decide), ea 11 (by decide), ea 12 (by decide), ea 15 (by decide)] at hL
            rw [ea 9 (by decide), ea 10 (by decide)] at hpl
            rw [ea 9 (by decide), eP] at hf
            refine outer hcp (cs_all σ i) 0 σ1 none (by omega) (by omega) (sn_fr_t hf0 (sn_fr_w hf (fun a b c z => ?_))) hpl (fun k hk hk2 => ?_) (fun t ht => by omega)
            · rcases z with z | z | z | z
              · exact Or.inl ⟨z.1, by omega, by omega⟩
              · exact Or.inr (Or.inl ⟨z.1, z.2.1⟩)
              · exact Or.inr (Or.inr (Or.inl ⟨z.1, z.2.1⟩))
              · exact Or.inr (Or.inr (Or.inr (Or.inl z)))
            · have ek : k = P := by omega
              subst ek
              rw [Nat.sub_self]
              rw [eP] at hL
              have eNN : (σ.1 9 i 9).toNat = N := eN
              unfold cs_Q
              rw [eNN] at hL ⊢
              exact hL
        · exact absurd rfl c1
    · exact h.elim
