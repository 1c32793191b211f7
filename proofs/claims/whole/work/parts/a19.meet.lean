/-! The reference's way to find a map: its contracts. -/
def mv (σ : sn_M) (s : mkT) : Prop := (∀ e, e < 100 → σ.1 64 0 e = s.1 e) ∧ (∀ j e : Nat, s.2[j]? = some e → σ.1 63 0 (j + 1) = (e : Int)) ∧ σ.1 63 0 0 = (s.2.length : Int)
def mk_P (a _ _ : Nat) : Prop := a = 63 ∨ a = 64
theorem ms_mk {T : fT} {S S' : sT} {i : Nat} {σ σ' : sn_M} (h : my_s T S S' i σ) (f : sn_fr mk_P σ σ') : my_s T S S' i σ' := ⟨my_v_fr h.1 f (fun a c g z => by have := cp_46 g; unfold mk_P at z; omega), h.2⟩
theorem mW_q {a b : sT} {s : mkT} (h : mW a b s) (h1 : a.2.2.1 ≤ 100) {e : Nat} (he : eal a e) (hz : s.1 e < 0) : s.2.length < 100 := by
  have nd : (e :: s.2).Nodup := List.nodup_cons.mpr ⟨fun z => by have := (h.2.1 e).mp z; omega, h.1⟩
  have := nd_le nd (A := List.range a.2.2.1) (fun x hx => by
    rcases List.mem_cons.mp hx with rfl | hx
    · exact List.mem_range.mpr he.1
    · exact List.mem_range.mpr (h.2.2 x hx).1.1)
  rw [List.length_range, List.length_cons] at this
  omega
def ca_MD_meet : List (Nat × Nat × Nat × sn_P) := []
theorem co_MD_meet : ∀ x n ci s', sn_lk ca_MD_meet x = some (n, ci, s') → sn_CO "SwitchedNetsModel" sn_ws 0 x n ci s' := fun _ _ _ _ h => by cases h
def sp_MD_meet : sn_P := sn_wp pr_MD_meet (sn_lk ft_MD) (sn_lk lc_MD) (sn_lk ca_MD_meet) 3 52
theorem ct_MD_meet : sn_CT y_MD_meet ws_MD_meet 0 sp_MD_meet := sn_CT_wp 52 pl_MD pk_MD_meet FI_MD LC_MD co_MD_meet
theorem md_meet {σ : sn_M} {s : mkT} (hv : mv σ s) {e k : Int} (he : e < (100 : Nat)) (hq : 0 ≤ e → s.1 e.toNat < 0 → s.2.length < 100) (po : Option sn_V → sn_M → Prop) (h1 : ∀ (s' : mkT) (σ' : sn_M), me s e k = some s' → mv σ' s' → sn_fr mk_P σ σ' → po (some (.inl 1)) σ') (h0 : me s e k = none → po (some (.inl 0)) σ) : sp_MD_meet [.inr (.inr (40, 0)), .inl e, .inl k] σ po := by
  have eq1 : e < 0 ∨ k < 0 → e = k → po (some (.inl 1)) σ := fun z y => h1 s σ (by unfold me; rw [if_pos z, if_pos y]) hv (sn_fr_rf _ σ)
  have ne1 : e < 0 ∨ k < 0 → ¬ e = k → po (some (.inl 0)) σ := fun z y => h0 (by unfold me; rw [if_pos z, if_neg y])
  refine fun G => And.intro (fun c => And.intro (fun d => And.intro (Or.inr rfl) (eq1 (Or.inl c) d)) (fun d => And.intro (Or.inl rfl) (ne1 (Or.inl c) d))) (fun c1 => And.intro (fun c => And.intro (fun d => And.intro (Or.inr rfl) (eq1 (Or.inr c) d)) (fun d => And.intro (Or.inl rfl) (ne1 (Or.inr c) d))) (fun c2 => ?_))
  have c1 : 0 ≤ e := c1
  have c2 : 0 ≤ k := c2
  have nz : ¬ (e < 0 ∨ k < 0) := by omega
  have ie : 0 ≤ e ∧ e < (100 : Nat) := ⟨c1, he⟩
  have e1 : σ.1 64 0 e.toNat = s.1 e.toNat := hv.1 _ (by omega)
  refine And.intro ie (And.intro (fun c => ?_) (fun c => ?_))
  · have c : σ.1 64 0 e.toNat < 0 := c
    rw [e1] at c
    have hq := hq c1 c
    have e3 : σ.1 63 0 0 = (s.2.length : Int) := hv.2.2
    have z0 : (0 : Int) ≤ 0 ∧ (0 : Int) < (200 : Nat) := by omega
    have yes : me s e k = some (sn_up s.1 e.toNat k, s.2 ++ [e.toNat]) := by unfold me; rw [if_neg nz, if_neg (by omega)]
    refine And.intro ie (And.intro z0 (And.intro (show sn_R (σ.1 63 0 0 + 1) by rw [e3]; unfold sn_R; omega) (And.intro z0 (And.intro z0 (And.intro (show 0 ≤ σ.1 63 0 0 + 1 ∧ σ.1 63 0 0 + 1 < (200 : Nat) by rw [e3]; omega) (And.intro (Or.inr rfl) (h1 _ _ yes ⟨fun x hx => ?_, fun x y hxy => ?_, ?_⟩ ⟨rfl, fun x y z hn => ?_⟩)))))))
    · show sn_u (sn_u (sn_u σ.1 64 0 e.toNat k) 63 0 0 (σ.1 63 0 0 + 1)) 63 0 (σ.1 63 0 0 + 1).toNat e 64 0 x = sn_up s.1 e.toNat k x
      rw [sn_u_n (by omega), sn_u_n (by omega), sn_u_at]
      unfold sn_up
      rw [hv.1 x hx]
    · show sn_u (sn_u (sn_u σ.1 64 0 e.toNat k) 63 0 0 (σ.1 63 0 0 + 1)) 63 0 (σ.1 63 0 0 + 1).toNat e 63 0 (x + 1) = _
      have hxy : (s.2 ++ [e.toNat])[x]? = some y := hxy
      have lt := (List.getElem?_eq_some_iff.mp hxy).1
      rw [List.length_append, List.length_singleton] at lt
      rw [sn_u_at, e3]
      by_cases w : x = s.2.length
      · subst w
        rw [List.getElem?_append_right (Nat.le_refl _), Nat.sub_self] at hxy
        have : e.toNat = y := Option.some.inj hxy
        rw [if_pos (by omega), ← this]
        omega
      · rw [List.getElem?_append_left (by omega)] at hxy
        rw [if_neg (by omega), sn_u_n (by omega), sn_u_n (by omega)]
        exact hv.2.1 x y hxy
    · show sn_u (sn_u (sn_u σ.1 64 0 e.toNat k) 63 0 0 (σ.1 63 0 0 + 1)) 63 0 (σ.1 63 0 0 + 1).toNat e 63 0 0 = ((s.2 ++ [e.toNat]).length : Int)
      rw [sn_u_at, if_neg (by rw [e3]; omega), sn_u_s, e3, List.length_append, List.length_singleton]
      omega
    · show sn_u (sn_u (sn_u σ.1 64 0 e.toNat k) 63 0 0 (σ.1 63 0 0 + 1)) 63 0 (σ.1 63 0 0 + 1).toNat e x y z = _
      rw [sn_u_n (fun w => hn (Or.inl w.1)), sn_u_n (fun w => hn (Or.inl w.1)), sn_u_n (fun w => hn (Or.inr w.1))]
  · have c : 0 ≤ σ.1 64 0 e.toNat := c
    rw [e1] at c
    refine And.intro ie (And.intro (fun d => ?_) (fun d => ?_))
    · have d : σ.1 64 0 e.toNat = k := d
      rw [e1] at d
      exact And.intro (Or.inr rfl) (h1 s σ (by unfold me; rw [if_neg nz, if_pos c, if_pos d]) hv (sn_fr_rf _ σ))
    · have d : ¬ σ.1 64 0 e.toNat = k := d
      rw [e1] at d
      exact And.intro (Or.inl rfl) (h0 (by unfold me; rw [if_neg nz, if_pos c, if_neg d]))
def sp_MD_follow : sn_P := fun vs σ po => match vs with
  | [.inr (.inr q), .inl x] => q = (40, 0) ∧ ∃ (T : fT) (a a' b b' : sT) (s : mkT) (e : Nat), my_s T a a' 0 σ ∧ my_s T b b' 1 σ ∧ mv σ s ∧ mW a b s ∧ x = (e : Int) ∧ e ∈ s.2 ∧ (∀ (s' : mkT) (σ' : sn_M), fw a b s e = some s' → mv σ' s' → sn_fr mk_P σ σ' → po (some (.inl 1)) σ') ∧ (∀ (σ' : sn_M), fw a b s e = none → sn_fr mk_P σ σ' → po (some (.inl 0)) σ')
  | _ => False
def ca_MD_follow : List (Nat × Nat × Nat × sn_P) := [(190, 3, 8, sp_MD_meet)]
theorem co_MD_follow : ∀ x n ci s', sn_lk ca_MD_follow x = some (n, ci, s') → sn_CO "SwitchedNetsModel" sn_ws 1 x n ci s' := sn_co_of (List.forall_mem_cons.mpr ⟨sn_CO_V ("SwitchedNetsModel", T_MD, 29) ct_MD_meet (by decide) (by decide) (sn_gV ml_MD_190 mi_MD_meet ms_MD_meet mz_MD mc_MD_meet) (by decide) rfl rfl ⟨nh_MD.1, nh_MD.2, pn_MD_meet⟩, fun _ h => absurd h List.not_mem_nil⟩)
set_option maxHeartbeats 8000000 in
theorem ct_MD_follow : sn_CT y_MD_follow ws_MD_follow 1 sp_MD_follow := by
  refine sn_CT_of (pr := pr_MD_follow) (fi := (sn_lk ft_MD)) (lc := (sn_lk lc_MD)) (ca := sn_lk ca_MD_follow) pl_MD ?_ pk_MD_follow FI_MD LC_MD co_MD_follow ?_
  · intro vs σ post h
    unfold sp_MD_follow at h
    split at h
    · exact Nat.le_of_ble_eq_true rfl
    · exact h.elim
  · intro vs σ post h hvs hR
    unfold sp_MD_follow at h
    split at h
    · next q x =>
      obtain ⟨rfl, T, a, a', b, b', s, e, ma, mb, hv, hW, rfl, hin, h1, h0⟩ := h
      intro G hG
      have ha := ma.2.2
      have hb := mb.2.2
      have ba := ha.1
      have bb := hb.1
      obtain ⟨w1, w2⟩ := hW.2.2 e hin
      have e5 := e_src ha w1
      have t5 := e_src hb (eal_n w2).1
      have l6 := e_use ha w1
      have m6 := e_use hb (eal_n w2).1
      obtain ⟨k, hk⟩ := Int.eq_ofNat_of_zero_le w2.1
      have hk : s.1 e = (k : Int) := hk
      have kk : (s.1 e).toNat = k := by rw [hk]; rfl
      rw [kk] at t5 m6
      have k9 : k < b.2.2.1 := by have := w2.2.1; omega
      have e9 := w1.1
      obtain ⟨A, hA⟩ : ∃ A : Nat, a.1 5 e = (A : Int) := ⟨_, e5.2.1⟩
      obtain ⟨B, hB⟩ : ∃ B : Nat, b.1 5 k = (B : Int) := ⟨_, t5.2.1⟩
      have tA : (a.1 5 e).toNat = A := by rw [hA]; rfl
      have tB : (b.1 5 k).toNat = B := by rw [hB]; rfl
      rw [tA] at e5
      rw [tB] at t5
      have lA : lal a (A : Int) := by rw [← hA]; exact e5.1
      have lB : lal b (B : Int) := by rw [← hB]; exact t5.1
      have A9 : A < a.2.1 := by have := lA.2.1; omega
      have B9 : B < b.2.1 := by have := lB.2.1; omega
      obtain ⟨a1, a2, -⟩ := l_edg ha lA
      obtain ⟨b1, b2, -⟩ := l_edg hb lB
      -- what is read
      have aL : ∀ (σ1 : sn_M), sn_fr mk_P σ σ1 → ∀ (c l : Nat), c < 4 → l < a.2.1 → σ1.1 (49 + c) 0 l = a.1 c l := fun σ1 f1 c l hc hl => ms_l (ms_mk ma f1) hc hl rfl (by omega)
      have aE : ∀ (σ1 : sn_M), sn_fr mk_P σ σ1 → ∀ (c l : Nat), 4 ≤ c → c < 8 → l < a.2.2.1 → σ1.1 (49 + c) 0 l = a.1 c l := fun σ1 f1 c l hc hc8 hl => ms_e (ms_mk ma f1) hc hc8 hl rfl (by omega)
      have bL : ∀ (σ1 : sn_M), sn_fr mk_P σ σ1 → ∀ (c l : Nat), c < 4 → l < b.2.1 → σ1.1 (49 + c) 0 ((60 : Int) + (l : Int)).toNat = b.1 c l := fun σ1 f1 c l hc hl => ms_l (ms_mk mb f1) hc hl rfl (by omega)
      have bE : ∀ (σ1 : sn_M), sn_fr mk_P σ σ1 → ∀ (c l : Nat), 4 ≤ c → c < 8 → l < b.2.2.1 → σ1.1 (49 + c) 0 ((100 : Int) + (l : Int)).toNat = b.1 c l := fun σ1 f1 c l hc hc8 hl => ms_e (ms_mk mb f1) hc hc8 hl rfl (by omega)
      have ie : (0 : Int) ≤ (e : Int) ∧ (e : Int) < (400 : Nat) := by omega
      have ie1 : (0 : Int) ≤ (e : Int) ∧ (e : Int) < (100 : Nat) := by omega
      have rk : sn_R ((100 : Int) + (k : Int)) := by unfold sn_R; omega
      have ik : (0 : Int) ≤ (100 : Int) + (k : Int) ∧ (100 : Int) + (k : Int) < (400 : Nat) := by omega
      have iA : (0 : Int) ≤ (A : Int) ∧ (A : Int) < (240 : Nat) := by omega
      have rB : sn_R ((60 : Int) + (B : Int)) := by unfold sn_R; omega
      have iB : (0 : Int) ≤ (60 : Int) + (B : Int) ∧ (60 : Int) + (B : Int) < (240 : Nat) := by omega
      have qq : ∀ {s1 : mkT}, mW a b s1 → ∀ {x : Int}, (x = -1 ∨ s_al a x) → (0 ≤ x → s1.1 x.toNat < 0 → s1.2.length < 100) := fun {s1} w {x} hx h0 hz => mW_q w ba.2.1 (eal_n (hx.resolve_left (by omega))).1 hz
      have lt1 : ∀ {x : Int}, (x = -1 ∨ s_al a x) → x < (100 : Nat) := fun {x} hx => by
        rcases hx with rfl | hx
        · decide
        · have := hx.2.1
          omega
      have f00 : fw0 a b (s.1 e) e ↔ (a.1 4 e = b.1 4 k ∧ a.1 7 e = b.1 7 k ∧ a.1 0 A = b.1 0 B) := by
        unfold fw0
        rw [kk, tA, tB]
      have no0 : ¬ (a.1 4 e = b.1 4 k ∧ a.1 7 e = b.1 7 k ∧ a.1 0 A = b.1 0 B) → post (some (.inl 0)) σ := fun z => h0 σ (by unfold fw; rw [if_neg (fun y => z (f00.mp y))]) (sn_fr_rf _ σ)
      -- the user's link
      have at337 : ∀ (t o : Nat) (s1 : mkT) (σ1 : sn_M) (g : Int), a.1 6 e = (t : Int) → b.1 6 k = (o : Int) → mW a b s1 → mv σ1 s1 → sn_fr mk_P σ σ1 → (∀ s', fw2 a b s1 (t : Int) (o : Int) = s' → fw a b s e = s') → G 337 [some (.inr (.inr (40, 0))), some (.inl (e : Int)), some (.inl (k : Int)), some (.inl (A : Int)), some (.inl (B : Int)), some (.inl g), some (.inl (t : Int)), some (.inl (o : Int))] [] σ1 := by
        intro t o s1 σ1 g ht ho W1 v1 f1 hfw
        have l6 := l6.resolve_left (by omega)
        have m6 := m6.resolve_left (by omega)
        rw [ht] at l6
        rw [ho] at m6
        have lt : lal a (t : Int) := l6.1
        have lo : lal b (o : Int) := m6.1
        obtain ⟨c1, c2, -, c3, -⟩ := l_edg ha lt
        obtain ⟨d1, d2, -, d3, -⟩ := l_edg hb lo
        have t9 : t < a.2.1 := by have := lt.2.1; omega
        have o9 : o < b.2.1 := by have := lo.2.1; omega
        have it : (0 : Int) ≤ (t : Int) ∧ (t : Int) < (240 : Nat) := by omega
        have ro : sn_R ((60 : Int) + (o : Int)) := by unfold sn_R; omega
        have io : (0 : Int) ≤ (60 : Int) + (o : Int) ∧ (60 : Int) + (o : Int) < (240 : Nat) := by omega
        have x1 : σ1.1 50 0 t = a.1 1 t := aL σ1 f1 1 t (by omega) t9
        have y1 : σ1.1 50 0 ((60 : Int) + (o : Int)).toNat = b.1 1 o := bL σ1 f1 1 o (by omega) o9
        refine hG 90 [] _ _ _ _ ?_
        refine And.intro it (And.intro ro (And.intro io (md_meet v1 (show σ1.1 50 0 t < (100 : Nat) by rw [x1]; exact lt1 (Or.inr c1)) (show 0 ≤ σ1.1 50 0 t → s1.1 (σ1.1 50 0 t).toNat < 0 → _ by rw [x1]; exact qq W1 (Or.inr c1)) _ (fun s2 σ2 g1 v2 f2 => And.intro (fun z => absurd z (by decide)) (fun _ => ?_)) (fun g1 => And.intro (fun _ => And.intro (Or.inl rfl) (h0 σ1 (hfw _ ?_) f1)) (fun z => absurd rfl z)))))
        case refine_2 =>
          have g1 : me s1 (σ1.1 50 0 t) (σ1.1 50 0 ((60 : Int) + (o : Int)).toNat) = none := g1
          rw [x1, y1] at g1
          show (me s1 (a.1 1 t) (b.1 1 o)).bind _ = none
          rw [g1]
          rfl
        have g1 : me s1 (σ1.1 50 0 t) (σ1.1 50 0 ((60 : Int) + (o : Int)).toNat) = some s2 := g1
        rw [x1, y1] at g1
        have W2 := (me_W W1 c1 d1 g1).1
        have f12 := sn_fr_t f1 f2
        have x2 : σ2.1 51 0 t = a.1 2 t := aL σ2 f12 2 t (by omega) t9
        have y2 : σ2.1 51 0 ((60 : Int) + (o : Int)).toNat = b.1 2 o := bL σ2 f12 2 o (by omega) o9
        refine And.intro it (And.intro ro (And.intro io (md_meet v2 (show σ2.1 51 0 t < (100 : Nat) by rw [x2]; exact lt1 (Or.inr c2)) (show 0 ≤ σ2.1 51 0 t → s2.1 (σ2.1 51 0 t).toNat < 0 → _ by rw [x2]; exact qq W2 (Or.inr c2)) _ (fun s3 σ3 g2 v3 f3 => And.intro (fun z => absurd z (by decide)) (fun _ => ?_)) (fun g2 => And.intro (fun _ => And.intro (Or.inl rfl) (h0 σ2 (hfw _ ?_) f12)) (fun z => absurd rfl z)))))
        case refine_2 =>
          have g2 : me s2 (σ2.1 51 0 t) (σ2.1 51 0 ((60 : Int) + (o : Int)).toNat) = none := g2
          rw [x2, y2] at g2
          show (me s1 (a.1 1 t) (b.1 1 o)).bind (fun s1 => (me s1 (a.1 2 t) (b.1 2 o)).bind _) = none
          rw [g1, Option.bind_some, g2]
          rfl
        have g2 : me s2 (σ2.1 51 0 t) (σ2.1 51 0 ((60 : Int) + (o : Int)).toNat) = some s3 := g2
        rw [x2, y2] at g2
        have W3 := (me_W W2 c2 d2 g2).1
        have f13 := sn_fr_t f12 f3
        have x3 : σ3.1 52 0 t = a.1 3 t := aL σ3 f13 3 t (by omega) t9
        have y3 : σ3.1 52 0 ((60 : Int) + (o : Int)).toNat = b.1 3 o := bL σ3 f13 3 o (by omega) o9
        have c3 := c3.imp id (fun z => z.1)
        have eq2 : ∀ r, me s3 (a.1 3 t) (b.1 3 o) = r → fw2 a b s1 (t : Int) (o : Int) = r := by
          intro r hr
          show (me s1 (a.1 1 t) (b.1 1 o)).bind (fun s1 => (me s1 (a.1 2 t) (b.1 2 o)).bind (fun s2 => me s2 (a.1 3 t) (b.1 3 o))) = r
          rw [g1, Option.bind_some, g2, Option.bind_some]
          exact hr
        refine And.intro it (And.intro ro (And.intro io (md_meet v3 (show σ3.1 52 0 t < (100 : Nat) by rw [x3]; exact lt1 c3) (show 0 ≤ σ3.1 52 0 t → s3.1 (σ3.1 52 0 t).toNat < 0 → _ by rw [x3]; exact qq W3 c3) _ (fun s4 σ4 g3 v4 f4 => And.intro (fun z => absurd z (by decide)) (fun _ => And.intro (Or.inr rfl) (h1 s4 σ4 (hfw _ (eq2 _ ?_)) v4 (sn_fr_t f13 f4)))) (fun g3 => And.intro (fun _ => And.intro (Or.inl rfl) (h0 σ3 (hfw _ (eq2 _ ?_)) f13)) (fun z => absurd rfl z)))))
        · have g3 : me s3 (σ3.1 52 0 t) (σ3.1 52 0 ((60 : Int) + (o : Int)).toNat) = some s4 := g3
          rw [x3, y3] at g3
          exact g3
        · have g3 : me s3 (σ3.1 52 0 t) (σ3.1 52 0 ((60 : Int) + (o : Int)).toNat) = none := g3
          rw [x3, y3] at g3
          exact g3
      have at246 : ∀ (s1 : mkT) (σ1 : sn_M), mW a b s1 → mv σ1 s1 → sn_fr mk_P σ σ1 → (∀ s', (if a.1 6 e < 0 ∨ b.1 6 k < 0 then (if a.1 6 e = b.1 6 k then some s1 else none) else @ite (Option mkT) (fw3 a b (s.1 e) e) (Classical.propDecidable _) (fw2 a b s1 (a.1 6 e) (b.1 6 k)) none) = s' → fw a b s e = s') → G 246 [some (.inr (.inr (40, 0))), some (.inl (e : Int)), some (.inl (k : Int)), some (.inl (A : Int)), some (.inl (B : Int)), some (.inl 1), some (.inl (a.1 6 e)), some (.inl (b.1 6 k))] [] σ1 := by
        intro s1 σ1 W1 v1 f1 hfw
        have low0 : a.1 6 e < 0 ∨ b.1 6 k < 0 → a.1 6 e = b.1 6 k → post (some (.inl 1)) σ1 := fun z y => h1 s1 σ1 (hfw _ (by rw [if_pos z, if_pos y])) v1 f1
        have low1 : a.1 6 e < 0 ∨ b.1 6 k < 0 → ¬ a.1 6 e = b.1 6 k → post (some (.inl 0)) σ1 := fun z y => h0 σ1 (hfw _ (by rw [if_pos z, if_neg y])) f1
        refine hG 60 [337] _ _ _ _ ?_
        refine And.intro (fun z => absurd z (by decide)) (fun _ => And.intro (fun c => And.intro (fun z => absurd z (by decide)) (fun _ => And.intro (fun d => And.intro (Or.inr rfl) (low0 (Or.inl c) d)) (fun d => And.intro (Or.inl rfl) (low1 (Or.inl c) d)))) (fun c => And.intro (fun c2 => And.intro (fun z => absurd z (by decide)) (fun _ => And.intro (fun d => And.intro (Or.inr rfl) (low0 (Or.inr c2) d)) (fun d => And.intro (Or.inl rfl) (low1 (Or.inr c2) d)))) (fun c2 => ?_)))
        have c : 0 ≤ a.1 6 e := c
        have c2 : 0 ≤ b.1 6 k := c2
        obtain ⟨t, ht⟩ := Int.eq_ofNat_of_zero_le c
        obtain ⟨o, ho⟩ := Int.eq_ofNat_of_zero_le c2
        have ht : a.1 6 e = (t : Int) := ht
        have ho : b.1 6 k = (o : Int) := ho
        have lt := (l6.resolve_left (by omega)).1
        have lo := (m6.resolve_left (by omega)).1
        rw [ht] at lt
        rw [ho] at lo
        have t9 : t < a.2.1 := by have := lt.2.1; omega
        have o9 : o < b.2.1 := by have := lo.2.1; omega
        have it : 0 ≤ a.1 6 e ∧ a.1 6 e < (240 : Nat) := by omega
        have ro : sn_R ((60 : Int) + b.1 6 k) := by unfold sn_R; omega
        have io : (0 : Int) ≤ (60 : Int) + b.1 6 k ∧ (60 : Int) + b.1 6 k < (240 : Nat) := by omega
        have x0 : σ1.1 49 0 (a.1 6 e).toNat = a.1 0 t := by rw [ht]; exact aL σ1 f1 0 t (by omega) t9
        have y0 : σ1.1 49 0 ((60 : Int) + b.1 6 k).toNat = b.1 0 o := by rw [ho]; exact bL σ1 f1 0 o (by omega) o9
        have x1 : σ1.1 50 0 (a.1 6 e).toNat = a.1 1 t := by rw [ht]; exact aL σ1 f1 1 t (by omega) t9
        have y1 : σ1.1 50 0 ((60 : Int) + b.1 6 k).toNat = b.1 1 o := by rw [ho]; exact bL σ1 f1 1 o (by omega) o9
        have f3 : fw3 a b (s.1 e) e ↔ (a.1 0 t = b.1 0 o ∧ ((a.1 1 t = (e : Int)) ↔ (b.1 1 o = (k : Int)))) := by
          unfold fw3
          rw [kk, ht, ho, hk]
          exact Iff.rfl
        have nz : ¬ (a.1 6 e < 0 ∨ b.1 6 k < 0) := by omega
        have no3 : ¬ fw3 a b (s.1 e) e → post (some (.inl 0)) σ1 := fun z => h0 σ1 (hfw _ (by rw [if_neg nz, if_neg z])) f1
        have yes3 : fw3 a b (s.1 e) e → G 337 [some (.inr (.inr (40, 0))), some (.inl (e : Int)), some (.inl (k : Int)), some (.inl (A : Int)), some (.inl (B : Int)), some (.inl 1), some (.inl (a.1 6 e)), some (.inl (b.1 6 k))] [] σ1 := by
          intro z
          have g := at337 t o s1 σ1 1 ht ho W1 v1 f1 (fun s' hs' => hfw s' (by rw [if_neg nz, if_pos z, ht, ho]; exact hs'))
          rw [ht, ho]
          exact g
        refine And.intro it (And.intro ro (And.intro io (And.intro (fun d => ?_) (fun d => ?_))))
        · have d : σ1.1 49 0 (a.1 6 e).toNat = σ1.1 49 0 ((60 : Int) + b.1 6 k).toNat := d
          rw [x0, y0] at d
          refine And.intro it (And.intro (fun p => And.intro ro (And.intro io (And.intro (fun q => ?_) (fun q => ?_)))) (fun p => And.intro ro (And.intro io (And.intro (fun q => ?_) (fun q => ?_)))))
          · have p : σ1.1 50 0 (a.1 6 e).toNat = (e : Int) := p
            have q : σ1.1 50 0 ((60 : Int) + b.1 6 k).toNat = (k : Int) := q
            rw [x1] at p
            rw [y1] at q
            exact And.intro (fun _ => yes3 (f3.mpr ⟨d, fun _ => q, fun _ => p⟩)) (fun z => absurd rfl z)
          · have p : σ1.1 50 0 (a.1 6 e).toNat = (e : Int) := p
            have q : ¬ σ1.1 50 0 ((60 : Int) + b.1 6 k).toNat = (k : Int) := q
            rw [x1] at p
            rw [y1] at q
            exact And.intro (fun z => absurd z (by decide)) (fun _ => And.intro (Or.inl rfl) (no3 (fun z => q ((f3.mp z).2.mp p))))
          · have p : ¬ σ1.1 50 0 (a.1 6 e).toNat = (e : Int) := p
            have q : σ1.1 50 0 ((60 : Int) + b.1 6 k).toNat = (k : Int) := q
            rw [x1] at p
            rw [y1] at q
            exact And.intro (fun z => absurd z (by decide)) (fun _ => And.intro (Or.inl rfl) (no3 (fun z => p ((f3.mp z).2.mpr q))))
          · have p : ¬ σ1.1 50 0 (a.1 6 e).toNat = (e : Int) := p
            have q : ¬ σ1.1 50 0 ((60 : Int) + b.1 6 k).toNat = (k : Int) := q
            rw [x1] at p
            rw [y1] at q
            exact And.intro (fun _ => yes3 (f3.mpr ⟨d, fun z => absurd z p, fun z => absurd z q⟩)) (fun z => absurd rfl z)
        · have d : ¬ σ1.1 49 0 (a.1 6 e).toNat = σ1.1 49 0 ((60 : Int) + b.1 6 k).toNat := d
          rw [x0, y0] at d
          exact And.intro (Or.inl rfl) (no3 (fun z => d (f3.mp z).1))
      have at227 : ∀ (s1 : mkT) (σ1 : sn_M) (o6 o7 : Option sn_V), mW a b s1 → mv σ1 s1 → sn_fr mk_P σ σ1 → fw0 a b (s.1 e) e → fw1 a b s e = some s1 → G 227 [some (.inr (.inr (40, 0))), some (.inl (e : Int)), some (.inl (k : Int)), some (.inl (A : Int)), some (.inl (B : Int)), some (.inl 1), o6, o7] [] σ1 := by
        intro s1 σ1 o6 o7 W1 v1 f1 z0 z1
        have x6 : σ1.1 55 0 e = a.1 6 e := aE σ1 f1 6 e (by omega) (by omega) e9
        have y6 : σ1.1 55 0 ((100 : Int) + (k : Int)).toNat = b.1 6 k := bE σ1 f1 6 k (by omega) (by omega) k9
        have g := at246 s1 σ1 W1 v1 f1 (fun s' hs' => by
          unfold fw
          rw [if_pos z0, z1, Option.bind_some, kk]
          exact hs')
        rw [← x6, ← y6] at g
        refine hG 30 [246] _ _ _ _ ?_
        exact And.intro ie (And.intro rk (And.intro ik g))
      have bad227 : ∀ (σ1 : sn_M) (o6 o7 : Option sn_V), sn_fr mk_P σ σ1 → fw1 a b s e = none → fw0 a b (s.1 e) e → G 227 [some (.inr (.inr (40, 0))), some (.inl (e : Int)), some (.inl (k : Int)), some (.inl (A : Int)), some (.inl (B : Int)), some (.inl 0), o6, o7] [] σ1 := by
        intro σ1 o6 o7 f1 z1 z0
        refine hG 40 [] _ _ _ _ ?_
        exact And.intro ie (And.intro rk (And.intro ik (And.intro (fun _ => And.intro (fun _ => And.intro (Or.inl rfl) (h0 σ1 (by unfold fw; rw [if_pos z0, z1]; rfl) f1)) (fun z => absurd rfl z)) (fun z => absurd rfl z))))
      have fr0 := sn_fr_rf mk_P σ
      have u0 : σ.1 49 0 A = a.1 0 A := aL σ fr0 0 A (by omega) A9
      have u1 : σ.1 50 0 A = a.1 1 A := aL σ fr0 1 A (by omega) A9
      have u2 : σ.1 51 0 A = a.1 2 A := aL σ fr0 2 A (by omega) A9
      have v0 : σ.1 49 0 ((60 : Int) + (B : Int)).toNat = b.1 0 B := bL σ fr0 0 B (by omega) B9
      have v1 : σ.1 50 0 ((60 : Int) + (B : Int)).toNat = b.1 1 B := bL σ fr0 1 B (by omega) B9
      have v2 : σ.1 51 0 ((60 : Int) + (B : Int)).toNat = b.1 2 B := bL σ fr0 2 B (by omega) B9
      have at94 : fw0 a b (s.1 e) e → G 94 [some (.inr (.inr (40, 0))), some (.inl (e : Int)), some (.inl (k : Int)), some (.inl (A : Int)), some (.inl (B : Int)), some (.inl 1), none, none] [] σ := by
        intro z0
        refine hG 60 [227] _ _ _ _ ?_
        refine And.intro iA (And.intro (fun c => ?_) (fun c => ?_))
        · have c : σ.1 49 0 A = 0 := c
          rw [u0] at c
          have e1 : fw1 a b s e = me s (oth a A e) (oth b B k) := by
            unfold fw1
            rw [tA, kk, tB, hk, if_pos c]
          have oA := oth_al ha lA (e : Int)
          have oB := oth_al hb lB (k : Int)
          have call : ∀ (x y : Int), x = oth a A e → y = oth b B k → x < (100 : Nat) ∧ (0 ≤ x → s.1 x.toNat < 0 → s.2.length < 100) ∧ (∀ s', me s x y = s' → fw1 a b s e = s') := by
            rintro x y rfl rfl
            exact ⟨lt1 (Or.inr oA), qq hW (Or.inr oA), fun s' hs' => e1.trans hs'⟩
          have yes : ∀ (x y : Int), x = oth a A e → y = oth b B k → ∀ s1, me s x y = some s1 → mW a b s1 := by
            rintro x y rfl rfl s1 h
            exact (me_W hW oA oB h).1
          refine And.intro iA (And.intro (fun p => And.intro iA (And.intro rB (And.intro iB (And.intro (fun q => And.intro rB (And.intro iB ?_)) (fun q => And.intro rB (And.intro iB ?_)))))) (fun p => And.intro iA (And.intro rB (And.intro iB (And.intro (fun q => And.intro rB (And.intro iB ?_)) (fun q => And.intro rB (And.intro iB ?_)))))))
          · have p : σ.1 50 0 A = (e : Int) := p
            have q : σ.1 50 0 ((60 : Int) + (B : Int)).toNat = (k : Int) := q
            rw [u1] at p
            rw [v1] at q
            have ex : σ.1 51 0 A = oth a A e := by rw [u2]; unfold oth; rw [if_pos p]
            have ey : σ.1 51 0 ((60 : Int) + (B : Int)).toNat = oth b B k := by rw [v2]; unfold oth; rw [if_pos q]
            obtain ⟨z1, z2, z3⟩ := call _ _ ex ey
            exact md_meet hv z1 z2 _ (fun s1 σ1 g1 v1 f1 => at227 s1 σ1 _ _ (yes _ _ ex ey s1 g1) v1 f1 z0 (z3 _ g1)) (fun g1 => bad227 σ _ _ fr0 (z3 _ g1) z0)
          · have p : σ.1 50 0 A = (e : Int) := p
            have q : ¬ σ.1 50 0 ((60 : Int) + (B : Int)).toNat = (k : Int) := q
            rw [u1] at p
            rw [v1] at q
            have ex : σ.1 51 0 A = oth a A e := by rw [u2]; unfold oth; rw [if_pos p]
            have ey : σ.1 50 0 ((60 : Int) + (B : Int)).toNat = oth b B k := by rw [v1]; unfold oth; rw [if_neg q]
            obtain ⟨z1, z2, z3⟩ := call _ _ ex ey
            exact md_meet hv z1 z2 _ (fun s1 σ1 g1 v1 f1 => at227 s1 σ1 _ _ (yes _ _ ex ey s1 g1) v1 f1 z0 (z3 _ g1)) (fun g1 => bad227 σ _ _ fr0 (z3 _ g1) z0)
          · have p : ¬ σ.1 50 0 A = (e : Int) := p
            have q : σ.1 50 0 ((60 : Int) + (B : Int)).toNat = (k : Int) := q
            rw [u1] at p
            rw [v1] at q
            have ex : σ.1 50 0 A = oth a A e := by rw [u1]; unfold oth; rw [if_neg p]
            have ey : σ.1 51 0 ((60 : Int) + (B : Int)).toNat = oth b B k := by rw [v2]; unfold oth; rw [if_pos q]
            obtain ⟨z1, z2, z3⟩ := call _ _ ex ey
            exact md_meet hv z1 z2 _ (fun s1 σ1 g1 v1 f1 => at227 s1 σ1 _ _ (yes _ _ ex ey s1 g1) v1 f1 z0 (z3 _ g1)) (fun g1 => bad227 σ _ _ fr0 (z3 _ g1) z0)
          · have p : ¬ σ.1 50 0 A = (e : Int) := p
            have q : ¬ σ.1 50 0 ((60 : Int) + (B : Int)).toNat = (k : Int) := q
            rw [u1] at p
            rw [v1] at q
            have ex : σ.1 50 0 A = oth a A e := by rw [u1]; unfold oth; rw [if_neg p]
            have ey : σ.1 50 0 ((60 : Int) + (B : Int)).toNat = oth b B k := by rw [v1]; unfold oth; rw [if_neg q]
            obtain ⟨z1, z2, z3⟩ := call _ _ ex ey
            exact md_meet hv z1 z2 _ (fun s1 σ1 g1 v1 f1 => at227 s1 σ1 _ _ (yes _ _ ex ey s1 g1) v1 f1 z0 (z3 _ g1)) (fun g1 => bad227 σ _ _ fr0 (z3 _ g1) z0)
        · have c : ¬ σ.1 49 0 A = 0 := c
          rw [u0] at c
          have e1 : fw1 a b s e = (me s (a.1 1 A) (b.1 1 B)).bind (fun s1 => me s1 (a.1 2 A) (b.1 2 B)) := by
            unfold fw1
            rw [tA, kk, tB, if_neg c]
          refine And.intro iA (And.intro rB (And.intro iB (md_meet hv (show σ.1 50 0 A < (100 : Nat) by rw [u1]; exact lt1 (Or.inr a1)) (show 0 ≤ σ.1 50 0 A → s.1 (σ.1 50 0 A).toNat < 0 → _ by rw [u1]; exact qq hW (Or.inr a1)) _ (fun s1 σ1 g1 w1 f1 => And.intro (fun z => absurd z (by decide)) (fun _ => ?_)) (fun g1 => And.intro (fun _ => bad227 σ _ _ fr0 ?_ z0) (fun z => absurd rfl z)))))
          case refine_2 =>
            have g1 : me s (σ.1 50 0 A) (σ.1 50 0 ((60 : Int) + (B : Int)).toNat) = none := g1
            rw [u1, v1] at g1
            rw [e1, g1]
            rfl
          have g1 : me s (σ.1 50 0 A) (σ.1 50 0 ((60 : Int) + (B : Int)).toNat) = some s1 := g1
          rw [u1, v1] at g1
          have W1 := (me_W hW a1 b1 g1).1
          have x2 : σ1.1 51 0 A = a.1 2 A := aL σ1 f1 2 A (by omega) A9
          have y2 : σ1.1 51 0 ((60 : Int) + (B : Int)).toNat = b.1 2 B := bL σ1 f1 2 B (by omega) B9
          refine And.intro iA (And.intro rB (And.intro iB (md_meet w1 (show σ1.1 51 0 A < (100 : Nat) by rw [x2]; exact lt1 (Or.inr a2)) (show 0 ≤ σ1.1 51 0 A → s1.1 (σ1.1 51 0 A).toNat < 0 → _ by rw [x2]; exact qq W1 (Or.inr a2)) _ (fun s2 σ2 g2 w2 f2 => And.intro (fun z => absurd z (by decide)) (fun _ => ?_)) (fun g2 => And.intro (fun _ => bad227 σ1 _ _ f1 ?_ z0) (fun z => absurd rfl z)))))
          · have g2 : me s1 (σ1.1 51 0 A) (σ1.1 51 0 ((60 : Int) + (B : Int)).toNat) = some s2 := g2
            rw [x2, y2] at g2
            exact at227 s2 σ2 _ _ (me_W W1 a2 b2 g2).1 w2 (sn_fr_t f1 f2) z0 (by rw [e1, g1, Option.bind_some]; exact g2)
          · have g2 : me s1 (σ1.1 51 0 A) (σ1.1 51 0 ((60 : Int) + (B : Int)).toNat) = none := g2
            rw [x2, y2] at g2
            rw [e1, g1, Option.bind_some]
            exact g2
      have at25 : G 25 [some (.inr (.inr (40, 0))), some (.inl (e : Int)), some (.inl (k : Int)), some (.inl (A : Int)), some (.inl (B : Int)), none, none, none] [] σ := by
        have x4 : σ.1 53 0 e = a.1 4 e := aE σ fr0 4 e (by omega) (by omega) e9
        have y4 : σ.1 53 0 ((100 : Int) + (k : Int)).toNat = b.1 4 k := bE σ fr0 4 k (by omega) (by omega) k9
        have x7 : σ.1 56 0 e = a.1 7 e := aE σ fr0 7 e (by omega) (by omega) e9
        have y7 : σ.1 56 0 ((100 : Int) + (k : Int)).toNat = b.1 7 k := bE σ fr0 7 k (by omega) (by omega) k9
        refine hG 60 [94] _ _ _ _ ?_
        refine And.intro ie (And.intro rk (And.intro ik (And.intro (fun c1 => And.intro ie (And.intro rk (And.intro ik (And.intro (fun c2 => And.intro iA (And.intro rB (And.intro iB (And.intro (fun c3 => And.intro (fun z => absurd z (by decide)) (fun _ => at94 (f00.mpr ⟨?_, ?_, ?_⟩))) (fun c3 => And.intro (fun _ => And.intro (Or.inl rfl) (no0 (fun z => ?_))) (fun z => absurd rfl z)))))) (fun c2 => And.intro (fun _ => And.intro (Or.inl rfl) (no0 (fun z => ?_))) (fun z => absurd rfl z)))))) (fun c1 => And.intro (fun _ => And.intro (Or.inl rfl) (no0 (fun z => ?_))) (fun z => absurd rfl z)))))
        · have c1 : σ.1 53 0 e = σ.1 53 0 ((100 : Int) + (k : Int)).toNat := c1
          rw [x4, y4] at c1
          exact c1
        · have c2 : σ.1 56 0 e = σ.1 56 0 ((100 : Int) + (k : Int)).toNat := c2
          rw [x7, y7] at c2
          exact c2
        · have c3 : σ.1 49 0 A = σ.1 49 0 ((60 : Int) + (B : Int)).toNat := c3
          rw [u0, v0] at c3
          exact c3
        · have c3 : ¬ σ.1 49 0 A = σ.1 49 0 ((60 : Int) + (B : Int)).toNat := c3
          rw [u0, v0] at c3
          exact c3 z.2.2
        · have c2 : ¬ σ.1 56 0 e = σ.1 56 0 ((100 : Int) + (k : Int)).toNat := c2
          rw [x7, y7] at c2
          exact c2 z.2.1
        · have c1 : ¬ σ.1 53 0 e = σ.1 53 0 ((100 : Int) + (k : Int)).toNat := c1
          rw [x4, y4] at c1
          exact c1 z.1
      have xk : σ.1 64 0 e = (k : Int) := (hv.1 e (by omega)).trans hk
      have x5 : σ.1 54 0 e = (A : Int) := (aE σ fr0 5 e (by omega) (by omega) e9).trans hA
      have y5 : σ.1 54 0 ((100 : Int) + (k : Int)).toNat = (B : Int) := (bE σ fr0 5 k (by omega) (by omega) k9).trans hB
      refine hG 30 [25] _ _ _ _ ?_
      refine And.intro ie1 (And.intro ie (And.intro ?_ (And.intro ?_ ?_)))
      · show sn_R ((100 : Int) + σ.1 64 0 e)
        rw [xk]
        exact rk
      · show 0 ≤ (100 : Int) + σ.1 64 0 e ∧ (100 : Int) + σ.1 64 0 e < (400 : Nat)
        rw [xk]
        exact ik
      · show G 25 [some (.inr (.inr (40, 0))), some (.inl (e : Int)), some (.inl (σ.1 64 0 e)), some (.inl (σ.1 54 0 e)), some (.inl (σ.1 54 0 ((100 : Int) + σ.1 64 0 e).toNat)), none, none, none] [] σ
        rw [xk, x5, y5]
        exact at25
    · exact h.elim
