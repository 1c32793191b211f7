/-! The class: roots and joins at a level. -/
/-- how many of the first n places are roots -/
def cf_n (r : Nat → Nat) (n : Nat) : Nat := match n with
  | 0 => 0
  | n + 1 => cf_n r n + (if r n = n then 1 else 0)
theorem cf_pos {r : Nat → Nat} {x : Nat} (hx : r x = x) : ∀ n, x < n → 0 < cf_n r n := by
  intro n
  induction n with
  | zero => intro h; omega
  | succ n ih =>
    intro h
    unfold cf_n
    by_cases e : x = n
    · subst e
      rw [if_pos hx]
      omega
    · have := ih (by omega)
      omega
theorem cf_step {r : Nat → Nat} {N u v : Nat} (h : ∀ x, x < N → r x < N ∧ r (r x) = r x) (hu : u < N) (hv : v < N) (hne : r u ≠ r v) : ∀ n, n ≤ N → cf_n (jn_step r u v) n + (if r u < n then 1 else 0) = cf_n r n := by
  intro n
  induction n with
  | zero => intro _; rfl
  | succ n ih =>
    intro hn
    have hi := ih (by omega)
    unfold cf_n
    have hq : (jn_step r u v n = n) ↔ (r n = n ∧ n ≠ r u) := by
      unfold jn_step
      constructor
      · intro z
        split at z
        · next e =>
          exfalso
          have h2 := (h v hv).2
          rw [z] at h2
          have h3 : r n = r v := by rw [h2]; exact z.symm
          exact hne (e.symm.trans h3)
        · next e =>
          exact ⟨z, fun q => e (by rw [q, (h u hu).2])⟩
      · intro z
        rw [if_neg (fun q => z.2 (by rw [← z.1]; exact q))]
        exact z.1
    by_cases e : r u = n
    · have e1 : r n = n := by rw [← e]; exact (h u hu).2
      rw [if_pos e1, if_neg (fun z => (hq.mp z).2 e.symm), if_pos (by omega)]
      rw [if_neg (by omega)] at hi
      omega
    · by_cases e2 : r n = n
      · rw [if_pos (hq.mpr ⟨e2, fun z => e z.symm⟩), if_pos e2]
        by_cases e3 : r u < n
        · rw [if_pos e3] at hi; rw [if_pos (by omega)]; omega
        · rw [if_neg e3] at hi; rw [if_neg (by omega)]; omega
      · rw [if_neg (fun z => e2 (hq.mp z).1), if_neg e2]
        by_cases e3 : r u < n
        · rw [if_pos e3] at hi; rw [if_pos (by omega)]; omega
        · rw [if_neg e3] at hi; rw [if_neg (by omega)]; omega
theorem jn_cnt {N : Nat} (E : List (Nat × Nat)) : ∀ r : Nat → Nat, (∀ q ∈ E, q.1 < N ∧ q.2 < N) → (∀ x, x < N → r x < N ∧ r (r x) = r x) → cf_n (jn_run E r).1 N + (jn_run E r).2 = cf_n r N ∧ ∀ x, x < N → (jn_run E r).1 x < N ∧ (jn_run E r).1 ((jn_run E r).1 x) = (jn_run E r).1 x := by
  induction E with
  | nil => intro r _ h; exact ⟨rfl, h⟩
  | cons q t ih =>
    intro r hE h
    have hq := hE q List.mem_cons_self
    have ht : ∀ p ∈ t, p.1 < N ∧ p.2 < N := fun p hp => hE p (List.mem_cons_of_mem _ hp)
    rw [jn_run1]
    by_cases e : r q.1 = r q.2
    · rw [if_pos e]
      exact ih r ht h
    · rw [if_neg e]
      have h' : ∀ x, x < N → jn_step r q.1 q.2 x < N ∧ jn_step r q.1 q.2 (jn_step r q.1 q.2 x) = jn_step r q.1 q.2 x := by
        intro x hx
        have h1 := (h q.2 hq.2)
        have h2 := h x hx
        unfold jn_step
        by_cases ex : r x = r q.1
        · rw [if_pos ex]
          refine ⟨h1.1, ?_⟩
          rw [h1.2, if_neg (fun z => e z.symm)]
        · rw [if_neg ex, h2.2, if_neg ex]
          exact ⟨h2.1, rfl⟩
      obtain ⟨i1, i2⟩ := ih _ ht h'
      have hs := cf_step h hq.1 hq.2 e N (Nat.le_refl _)
      rw [if_pos (h q.1 hq.1).1] at hs
      refine ⟨?_, i2⟩
      show cf_n (jn_run t (jn_step r q.1 q.2)).1 N + ((jn_run t (jn_step r q.1 q.2)).2 + 1) = cf_n r N
      omega
theorem cf_id (n : Nat) : cf_n (fun x => x) n = n := by
  induction n with
  | zero => rfl
  | succ n ih => unfold cf_n; rw [ih, if_pos rfl]
/-- fewer joins succeed than there are places -/
theorem jn_lt {N : Nat} (hN : 0 < N) {E : List (Nat × Nat)} (hE : ∀ q ∈ E, q.1 < N ∧ q.2 < N) : (jn_run E (fun x => x)).2 < N := by
  obtain ⟨h1, h2⟩ := jn_cnt E (fun x => x) hE (fun x hx => ⟨hx, rfl⟩)
  rw [cf_id] at h1
  have h3 := h2 0 hN
  have h4 := cf_pos (r := (jn_run E (fun x => x)).1) h3.2 N h3.1
  omega
def sp_SW_rootOf : sn_P := fun vs σ po => match vs with
  | [.inr (.inr q), .inl l] => q.1 = 21 ∧ 0 ≤ l ∧ ∃ (N j : Nat) (r : Nat → Nat), N ≤ 60 ∧ l < (N : Int) ∧ j ≤ 60 ∧ uf_ok N (σ.1 21 q.2) j r ∧ po (some (.inl (r l.toNat : Nat))) σ
  | _ => False
def ca_SW_rootOf : List (Nat × Nat × Nat × sn_P) := []
theorem co_SW_rootOf : ∀ x n ci s', sn_lk ca_SW_rootOf x = some (n, ci, s') → sn_CO "SwitchedNets$Switchings" sn_ws 0 x n ci s' := fun _ _ _ _ h => by cases h
theorem ct_SW_rootOf : sn_CT y_SW_rootOf ws_SW_rootOf 0 sp_SW_rootOf := by
  refine sn_CT_of (pr := pr_SW_rootOf) (fi := (sn_lk ft_SW)) (lc := sn_no) (ca := sn_lk ca_SW_rootOf) pl_SW ?_ pk_SW_rootOf FI_SW (sn_no_ok _) co_SW_rootOf ?_
  · intro vs σ post h
    unfold sp_SW_rootOf at h
    split at h
    · exact Nat.le_of_ble_eq_true rfl
    · exact h.elim
  · intro vs σ post h hvs hR
    unfold sp_SW_rootOf at h
    split at h
    · next q l =>
      obtain ⟨a, b⟩ := q
      obtain ⟨ha, hl0, N, j, r, hN, hl1, hj, hu, h⟩ := h
      have ha : a = 21 := ha
      subst ha
      intro G hG
      obtain ⟨ln, rfl⟩ := Int.eq_ofNat_of_zero_le hl0
      have hln : ln < N := by omega
      have hu : uf_ok N (σ.1 21 b) j r := hu
      have h : post (some (.inl (r ln : Nat))) σ := h
      have loop : ∀ (k x up : Nat), x < N → r x = r ln → uf_up (σ.1 21 b) k x = r x → up + k ≤ 60 → G 4 [some (.inr (.inr (21, b))), some (.inl (ln : Int)), some (.inl (x : Int)), some (.inl (up : Int))] [] σ := by
        intro k
        induction k with
        | zero =>
          intro x up hx hr he hup
          have he : x = r x := he
          have hb : (0 : Int) ≤ (x : Int) ∧ (x : Int) < (60 : Nat) := ⟨by omega, by omega⟩
          obtain ⟨-, a2, -⟩ := hu.2 x hx
          rw [← he] at a2
          rw [← hr, ← he] at h
          refine hG 60 [4] _ _ _ _ ?_
          refine And.intro (fun c1 => And.intro hb (And.intro (fun c2 => h) (fun c2 => absurd a2 c2))) (fun c1 => h)
        | succ k ih =>
          intro x up hx hr he hup
          have hb : (0 : Int) ≤ (x : Int) ∧ (x : Int) < (60 : Nat) := ⟨by omega, by omega⟩
          have hr1 : sn_R ((up : Int) + 1) := ⟨by omega, by omega⟩
          refine hG 60 [4] _ _ _ _ ?_
          refine And.intro (fun c1 => And.intro hb (And.intro (fun c2 => ?_) (fun c2 => And.intro hb (And.intro hr1 ?_)))) (fun c1 => ?_)
          · have c2 : σ.1 21 b x = (x : Int) := c2
            have e : uf_up (σ.1 21 b) (k + 1) x = x := uf_fix c2 _
            rw [e] at he
            rw [← hr, ← he] at h
            exact h
          · obtain ⟨g1, g2⟩ := uf_par hu hx
            have g3 := hu.1 x hx
            have e : ((σ.1 21 b x).toNat : Int) = σ.1 21 b x := by omega
            have hi := ih (σ.1 21 b x).toNat (up + 1) g1 (g2.trans hr) (by rw [g2, ← uf_up_s]; exact he) (by omega)
            rw [e] at hi
            exact hi
          · have c1 : (60 : Int) ≤ (up : Int) := c1
            omega
      refine hG 60 [4] _ _ _ _ ?_
      exact loop j ln 0 hln rfl (hu.2 ln hln).2.2 (by omega)
    · exact h.elim
/-- level k of the switchings w holds the edges E over N links, of which C are there -/
def sw_L (σ : sn_M) (w N : Nat) (C : Int) (k : Nat) (E : List (Nat × Nat)) : Prop :=
  (∀ q ∈ E, q.1 < N ∧ q.2 < N) ∧ uf_ok N (σ.1 21 (9 * w + k)) (jn_run E (fun x => x)).2 (jn_run E (fun x => x)).1 ∧ σ.1 22 w k = C - (jn_run E (fun x => x)).2 ∧ σ.1 23 w k = (if (jn_run E (fun x => x)).2 < E.length then 1 else 0)
/-- nothing has changed but where P says so -/
def sn_fr (P : Nat → Nat → Nat → Prop) (σ σ' : sn_M) : Prop := σ'.2 = σ.2 ∧ ∀ a b c, ¬ P a b c → σ'.1 a b c = σ.1 a b c
theorem sn_fr_t {P : Nat → Nat → Nat → Prop} {σ σ' σ'' : sn_M} (h : sn_fr P σ σ') (g : sn_fr P σ' σ'') : sn_fr P σ σ'' := ⟨g.1.trans h.1, fun a b c n => (g.2 a b c n).trans (h.2 a b c n)⟩
theorem sn_fr_w {P P' : Nat → Nat → Nat → Prop} {σ σ' : sn_M} (h : sn_fr P σ σ') (g : ∀ a b c, P a b c → P' a b c) : sn_fr P' σ σ' := ⟨h.1, fun a b c n => h.2 a b c (fun z => n (g a b c z))⟩
def sw_P (w k : Nat) (a b c : Nat) : Prop := (a = 21 ∧ b = 9 * w + k) ∨ (a = 22 ∧ b = w ∧ c = k) ∨ (a = 23 ∧ b = w ∧ c = k)
def sp_SW_join : sn_P := fun vs σ po => match vs with
  | [.inr (.inr q), .inl k, .inl u, .inl v] => q.1 = 19 ∧ (0 ≤ k ∧ k < 9 ∧ 0 ≤ u ∧ 0 ≤ v) ∧ ∃ (N : Nat) (C : Int) (E : List (Nat × Nat)), N ≤ 60 ∧ (0 ≤ C ∧ C ≤ 60) ∧ u < (N : Int) ∧ v < (N : Int) ∧ sw_L σ q.2 N C k.toNat E ∧ ∀ σ', sw_L σ' q.2 N C k.toNat (E ++ [(u.toNat, v.toNat)]) → sn_fr (sw_P q.2 k.toNat) σ σ' → po none σ'
  | _ => False
def ca_SW_join : List (Nat × Nat × Nat × sn_P) := [(80, 2, 0, sp_SW_rootOf)]
theorem co_SW_join : ∀ x n ci s', sn_lk ca_SW_join x = some (n, ci, s') → sn_CO "SwitchedNets$Switchings" sn_ws 1 x n ci s' := sn_co_of (List.forall_mem_cons.mpr ⟨sn_CO_S ct_SW_rootOf (by decide) (by decide) (sn_gS ml_SW_80 mt_SW_rootOf mz_SW mc_SW_rootOf) ⟨nh_SW.1, nh_SW.2, pn_SW_rootOf⟩, fun _ h => absurd h List.not_mem_nil⟩)
theorem ct_SW_join : sn_CT y_SW_join ws_SW_join 1 sp_SW_join := by
  refine sn_CT_of (pr := pr_SW_join) (fi := (sn_lk ft_SW)) (lc := sn_no) (ca := sn_lk ca_SW_join) pl_SW ?_ pk_SW_join FI_SW (sn_no_ok _) co_SW_join ?_
  · intro vs σ post h
    unfold sp_SW_join at h
    split at h
    · exact Nat.le_of_ble_eq_true rfl
    · exact h.elim
  · intro vs σ post h hvs hR
    unfold sp_SW_join at h
    split at h
    · next q k u v =>
      obtain ⟨a, w⟩ := q
      obtain ⟨ha, ⟨hk0, hk1, hu0, hv0⟩, N, C, E, hN, ⟨hC0, hC1⟩, hu1, hv1, hL, h⟩ := h
      have ha : a = 19 := ha
      subst ha
      intro G hG
      obtain ⟨kn, rfl⟩ := Int.eq_ofNat_of_zero_le hk0
      obtain ⟨un, rfl⟩ := Int.eq_ofNat_of_zero_le hu0
      obtain ⟨vn, rfl⟩ := Int.eq_ofNat_of_zero_le hv0
      have hL : sw_L σ w N C kn E := hL
      have h : ∀ σ', sw_L σ' w N C kn (E ++ [(un, vn)]) → sn_fr (sw_P w kn) σ σ' → post none σ' := h
      obtain ⟨hE, hu, hp, hc⟩ := hL
      have hun : un < N := by omega
      have hvn : vn < N := by omega
      have hlt := jn_lt (show 0 < N by omega) hE
      have hle := jn_le E (fun x => x)
      have hE' : ∀ q ∈ E ++ [(un, vn)], q.1 < N ∧ q.2 < N := by
        intro q hq
        rcases List.mem_append.mp hq with hq | hq
        · exact hE q hq
        · rw [List.mem_singleton.mp hq]
          exact ⟨hun, hvn⟩
      have eapp := jn_app E [(un, vn)] (fun x => x)
      rw [jn_one] at eapp
      have elen : (E ++ [(un, vn)]).length = E.length + 1 := by rw [List.length_append]; rfl
      obtain ⟨ru, pu, -⟩ := hu.2 un hun
      obtain ⟨rv, pv, -⟩ := hu.2 vn hvn
      generalize hSe : (jn_run E (fun x => x)).2 = S at hu hp hc hlt hle eapp
      generalize hRe : (jn_run E (fun x => x)).1 = R at hu ru pu rv pv eapp
      have hkb : (0 : Int) ≤ (kn : Int) ∧ (kn : Int) < (9 : Nat) := ⟨by omega, by omega⟩
      have hub : (0 : Int) ≤ (R un : Nat) ∧ ((R un : Nat) : Int) < (60 : Nat) := ⟨by omega, by omega⟩
      refine hG 60 [] _ _ _ _ ?_
      refine And.intro hkb (And.intro rfl (And.intro hu0 ⟨N, S, R, hN, hu1, by omega, hu, And.intro hkb (And.intro rfl (And.intro hv0 ⟨N, S, R, hN, hv1, by omega, hu, ?_⟩))⟩))
      refine And.intro (fun c1 => ?_) (fun c1 => ?_)
      · have huv : R un = R vn := Int.ofNat.inj c1
        rw [if_pos huv] at eapp
        refine And.intro hkb (And.intro (Or.inr rfl) (h _ ⟨hE', ?_⟩ ⟨rfl, fun a b c hn => sn_u_n (fun z => hn (Or.inr (Or.inr ⟨z.1, z.2.1, z.2.2⟩)))⟩))
        rw [eapp, elen]
        refine ⟨?_, ?_, ?_⟩
        · have e : (sn_u σ.1 23 w kn 1) 21 (9 * w + kn) = σ.1 21 (9 * w + kn) := funext fun x => sn_u_n (fun z => absurd z.1 (by decide))
          show uf_ok N ((sn_u σ.1 23 w kn 1) 21 (9 * w + kn)) (S + 0) R
          rw [e]
          exact hu
        · show sn_u σ.1 23 w kn 1 22 w kn = C - ((S + 0 : Nat) : Int)
          rw [sn_u_n (fun z => absurd z.1 (by decide))]
          exact hp
        · show sn_u σ.1 23 w kn 1 23 w kn = if S + 0 < E.length + 1 then 1 else 0
          rw [sn_u_s, if_pos (by omega)]
      · have huv : R un ≠ R vn := fun z => c1 (congrArg Int.ofNat z)
        rw [if_neg huv] at eapp
        have e22 : sn_u σ.1 21 (9 * w + kn) (R un) ((R vn : Nat) : Int) 22 w kn = C - (S : Int) := by
          rw [sn_u_n (fun z => absurd z.1 (by decide))]
          exact hp
        refine And.intro hkb (And.intro hub (And.intro hkb (And.intro ?_ (And.intro hkb (h _ ⟨hE', ?_⟩ ⟨rfl, fun a b c hn => ?_⟩)))))
        · show sn_R (sn_u σ.1 21 (9 * w + kn) (R un) ((R vn : Nat) : Int) 22 w kn - 1)
          rw [e22]
          exact ⟨by omega, by omega⟩
        · rw [eapp, elen]
          refine ⟨?_, ?_, ?_⟩
          · have e : (sn_u (sn_u σ.1 21 (9 * w + kn) (R un) ((R vn : Nat) : Int)) 22 w kn (sn_u σ.1 21 (9 * w + kn) (R un) ((R vn : Nat) : Int) 22 w kn - 1)) 21 (9 * w + kn) = sn_up (σ.1 21 (9 * w + kn)) (R un) (R vn) := by
              funext x
              rw [sn_u_n (fun z => absurd z.1 (by decide))]
              unfold sn_u sn_up
              by_cases hx : x = R un
              · rw [if_pos ⟨rfl, rfl, hx⟩, if_pos hx]
              · rw [if_neg (fun z => hx z.2.2), if_neg hx]
            show uf_ok N ((sn_u (sn_u σ.1 21 (9 * w + kn) (R un) ((R vn : Nat) : Int)) 22 w kn (sn_u σ.1 21 (9 * w + kn) (R un) ((R vn : Nat) : Int) 22 w kn - 1)) 21 (9 * w + kn)) (S + 1) (jn_step R un vn)
            rw [e]
            exact uf_join hu hun hvn huv
          · show sn_u (sn_u σ.1 21 (9 * w + kn) (R un) ((R vn : Nat) : Int)) 22 w kn (sn_u σ.1 21 (9 * w + kn) (R un) ((R vn : Nat) : Int) 22 w kn - 1) 22 w kn = C - ((S + 1 : Nat) : Int)
            rw [sn_u_s, e22]
            omega
          · show sn_u (sn_u σ.1 21 (9 * w + kn) (R un) ((R vn : Nat) : Int)) 22 w kn (sn_u σ.1 21 (9 * w + kn) (R un) ((R vn : Nat) : Int) 22 w kn - 1) 23 w kn = if S + 1 < E.length + 1 then 1 else 0
            rw [sn_u_n (fun z => absurd z.1 (by decide)), sn_u_n (fun z => absurd z.1 (by decide)), hc]
            by_cases hz : S < E.length
            · rw [if_pos hz, if_pos (by omega)]
            · rw [if_neg hz, if_neg (by omega)]
        · show sn_u (sn_u σ.1 21 (9 * w + kn) (R un) ((R vn : Nat) : Int)) 22 w kn (sn_u σ.1 21 (9 * w + kn) (R un) ((R vn : Nat) : Int) 22 w kn - 1) a b c = σ.1 a b c
          rw [sn_u_n (fun z => hn (Or.inr (Or.inl ⟨z.1, z.2.1, z.2.2⟩))), sn_u_n (fun z => hn (Or.inl ⟨z.1, z.2.1⟩))]
    · exact h.elim
