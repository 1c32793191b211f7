/-! The class's way to find a map: its contracts. -/
def lv (σ : sn_M) (s : lkT) : Prop := (∀ e, e < 100 → σ.1 30 0 e = s.1 e) ∧ (∀ l, l < 60 → σ.1 31 0 l = s.2.1 l) ∧ (∀ j e : Nat, s.2.2[j]? = some e → σ.1 32 0 j = (e : Int)) ∧ σ.1 29 0 3 = (s.2.2.length : Int)
def lk_P (a _ _ : Nat) : Prop := 29 ≤ a ∧ a ≤ 32
theorem lW_q {a b : sT} {s : lkT} (h : lW a b s) (h1 : a.2.2.1 ≤ 100) {e : Nat} (he : eal a e) (hz : s.1 e = -1) : s.2.2.length < 100 := by
  have nd : (e :: s.2.2).Nodup := List.nodup_cons.mpr ⟨fun z => (h.2.1 e).mp z hz, h.1⟩
  have := nd_le nd (A := List.range a.2.2.1) (fun x hx => by
    rcases List.mem_cons.mp hx with rfl | hx
    · exact List.mem_range.mpr he.1
    · exact List.mem_range.mpr (h.2.2 x hx).1.1)
  rw [List.length_range, List.length_cons] at this
  omega
theorem sx_lk {X : sX} {i : Nat} {σ σ' : sn_M} (h : sx_v X i σ) (f : sn_fr lk_P σ σ') : sx_v X i σ' := sx_v_fr h f (fun a c h1 h2 z => by have := z.1; omega)
def ca_LK_layEdge : List (Nat × Nat × Nat × sn_P) := []
theorem co_LK_layEdge : ∀ x n ci s', sn_lk ca_LK_layEdge x = some (n, ci, s') → sn_CO "SwitchedNets$Likeness" sn_ws 0 x n ci s' := fun _ _ _ _ h => by cases h
def sp_LK_layEdge : sn_P := sn_wp pr_LK_layEdge (sn_lk ft_LK) sn_no (sn_lk ca_LK_layEdge) 5 56
theorem ct_LK_layEdge : sn_CT y_LK_layEdge ws_LK_layEdge 0 sp_LK_layEdge := sn_CT_wp 56 pl_LK pk_LK_layEdge FI_LK (sn_no_ok _) co_LK_layEdge
theorem lk_edge {a b : sT} {i j : Nat} {σ : sn_M} {s : lkT} (va : sx_v (s_X a) i σ) (vb : sx_v (s_X b) j σ) (hv : lv σ s) {e f : Int} (he : 0 ≤ e ∧ e < (100 : Nat)) (hf : 0 ≤ f ∧ f < (100 : Nat)) (hq : s.1 e.toNat = -1 → s.2.2.length < 100) (po : Option sn_V → sn_M → Prop) (h1 : ∀ (s' : lkT) (σ' : sn_M), le a b s e f = some s' → lv σ' s' → sn_fr lk_P σ σ' → po (some (.inl 1)) σ') (h0 : le a b s e f = none → po (some (.inl 0)) σ) : sp_LK_layEdge [.inr (.inr (29, 0)), .inr (.inr (9, i)), .inl e, .inr (.inr (9, j)), .inl f] σ po := by
  have e1 : σ.1 30 0 e.toNat = s.1 e.toNat := hv.1 _ (by omega)
  have a4 : σ.1 14 i = a.1 4 := va.1 4 (by omega)
  have a7 : σ.1 17 i = a.1 7 := va.1 7 (by omega)
  have b4 : σ.1 14 j = b.1 4 := vb.1 4 (by omega)
  have b7 : σ.1 17 j = b.1 7 := vb.1 7 (by omega)
  refine fun G => And.intro he (And.intro (fun c => ?_) (fun c => ?_))
  · have c : σ.1 30 0 e.toNat = -1 := c
    rw [e1] at c
    have hq := hq c
    have nn : ¬ ¬ s.1 e.toNat = -1 := fun z => z c
    have no : ¬ (a.1 4 e.toNat = b.1 4 f.toNat ∧ a.1 7 e.toNat = b.1 7 f.toNat) → le a b s e f = none := fun z => by unfold le; rw [if_neg nn, if_neg z]
    refine And.intro he (And.intro hf (And.intro (fun d => ?_) (fun d => ?_)))
    · have d : σ.1 14 i e.toNat = σ.1 14 j f.toNat := d
      rw [a4, b4] at d
      refine And.intro he (And.intro hf (And.intro (fun d2 => ?_) (fun d2 => ?_)))
      · have d2 : σ.1 17 i e.toNat = σ.1 17 j f.toNat := d2
        rw [a7, b7] at d2
        have e3 : σ.1 29 0 3 = (s.2.2.length : Int) := hv.2.2.2
        have yes : le a b s e f = some (sn_up s.1 e.toNat f, s.2.1, s.2.2 ++ [e.toNat]) := by unfold le; rw [if_neg nn, if_pos ⟨d, d2⟩]
        refine And.intro he (And.intro (show 0 ≤ σ.1 29 0 3 ∧ σ.1 29 0 3 < (100 : Nat) by rw [e3]; omega) (And.intro (show sn_R (σ.1 29 0 3 + 1) by rw [e3]; unfold sn_R; omega) (And.intro (Or.inr rfl) (h1 _ _ yes ⟨fun x hx => ?_, fun x hx => ?_, fun x y hxy => ?_, ?_⟩ ⟨rfl, fun x y z hn => ?_⟩))))
        · show sn_u (sn_u (sn_u σ.1 30 0 e.toNat f) 32 0 (σ.1 29 0 3).toNat e) 29 0 3 (σ.1 29 0 3 + 1) 30 0 x = sn_up s.1 e.toNat f x
          rw [sn_u_n (by omega), sn_u_n (by omega), sn_u_at]
          unfold sn_up
          rw [hv.1 x hx]
        · show sn_u (sn_u (sn_u σ.1 30 0 e.toNat f) 32 0 (σ.1 29 0 3).toNat e) 29 0 3 (σ.1 29 0 3 + 1) 31 0 x = _
          rw [sn_u_n (by omega), sn_u_n (by omega), sn_u_n (by omega)]
          exact hv.2.1 x hx
        · show sn_u (sn_u (sn_u σ.1 30 0 e.toNat f) 32 0 (σ.1 29 0 3).toNat e) 29 0 3 (σ.1 29 0 3 + 1) 32 0 x = _
          have lt := (List.getElem?_eq_some_iff.mp hxy).1
          have hxy : (s.2.2 ++ [e.toNat])[x]? = some y := hxy
          have lt : x < (s.2.2 ++ [e.toNat]).length := lt
          rw [List.length_append, List.length_singleton] at lt
          rw [sn_u_n (by omega), sn_u_at, sn_u_n (by omega), e3, show ((s.2.2.length : Int)).toNat = s.2.2.length from rfl]
          by_cases w : x = s.2.2.length
          · subst w
            rw [List.getElem?_append_right (Nat.le_refl _), Nat.sub_self] at hxy
            have : e.toNat = y := Option.some.inj hxy
            rw [if_pos rfl, ← this]
            omega
          · rw [List.getElem?_append_left (by omega)] at hxy
            rw [if_neg w]
            exact hv.2.2.1 x y hxy
        · show sn_u (sn_u (sn_u σ.1 30 0 e.toNat f) 32 0 (σ.1 29 0 3).toNat e) 29 0 3 (σ.1 29 0 3 + 1) 29 0 3 = ((s.2.2 ++ [e.toNat]).length : Int)
          rw [sn_u_s, e3, List.length_append, List.length_singleton]
          omega
        · show sn_u (sn_u (sn_u σ.1 30 0 e.toNat f) 32 0 (σ.1 29 0 3).toNat e) 29 0 3 (σ.1 29 0 3 + 1) x y z = _
          rw [sn_u_n (fun w => hn ⟨by omega, by omega⟩), sn_u_n (fun w => hn ⟨by omega, by omega⟩), sn_u_n (fun w => hn ⟨by omega, by omega⟩)]
      · have d2 : ¬ σ.1 17 i e.toNat = σ.1 17 j f.toNat := d2
        rw [a7, b7] at d2
        exact And.intro (Or.inl rfl) (h0 (no (fun z => d2 z.2)))
    · have d : ¬ σ.1 14 i e.toNat = σ.1 14 j f.toNat := d
      rw [a4, b4] at d
      exact And.intro (Or.inl rfl) (h0 (no (fun z => d z.1)))
  · have c : ¬ σ.1 30 0 e.toNat = -1 := c
    rw [e1] at c
    refine And.intro he (And.intro (fun d => ?_) (fun d => ?_))
    · have d : σ.1 30 0 e.toNat = f := d
      rw [e1] at d
      exact And.intro (Or.inr rfl) (h1 s σ (by unfold le; rw [if_pos c, if_pos d]) hv (sn_fr_rf _ σ))
    · have d : ¬ σ.1 30 0 e.toNat = f := d
      rw [e1] at d
      exact And.intro (Or.inl rfl) (h0 (by unfold le; rw [if_pos c, if_neg d]))
def sp_LK_layLink : sn_P := fun vs σ po => match vs with
  | [.inr (.inr q), .inr (.inr t), .inl l, .inr (.inr u), .inl m] => q = (29, 0) ∧ t.1 = 9 ∧ u.1 = 9 ∧ ∃ (T : fT) (a b : sT) (s : lkT), sx_v (s_X a) t.2 σ ∧ sx_v (s_X b) u.2 σ ∧ s_ok T a ∧ s_ok T b ∧ lv σ s ∧ lW a b s ∧ (l = -1 ∨ lal a l) ∧ (m = -1 ∨ lal b m) ∧ (∀ (s' : lkT) (σ' : sn_M), ll a b s l m = some s' → lv σ' s' → sn_fr lk_P σ σ' → po (some (.inl 1)) σ') ∧ (∀ (σ' : sn_M), ll a b s l m = none → sn_fr lk_P σ σ' → po (some (.inl 0)) σ')
  | _ => False
def ca_LK_layLink : List (Nat × Nat × Nat × sn_P) := [(42, 5, 2, sp_LK_layEdge)]
theorem co_LK_layLink : ∀ x n ci s', sn_lk ca_LK_layLink x = some (n, ci, s') → sn_CO "SwitchedNets$Likeness" sn_ws 1 x n ci s' := sn_co_of (List.forall_mem_cons.mpr ⟨sn_CO_V ("SwitchedNets$Likeness", T_LK, 4) ct_LK_layEdge (by decide) (by decide) (sn_gV ml_LK_42 mi_LK_layEdge ms_LK_layEdge mz_LK mc_LK_layEdge) (by decide) rfl rfl ⟨nh_LK.1, nh_LK.2, pn_LK_layEdge⟩, fun _ h => absurd h List.not_mem_nil⟩)
set_option maxHeartbeats 4000000 in
theorem ct_LK_layLink : sn_CT y_LK_layLink ws_LK_layLink 1 sp_LK_layLink := by
  refine sn_CT_of (pr := pr_LK_layLink) (fi := (sn_lk ft_LK)) (lc := sn_no) (ca := sn_lk ca_LK_layLink) pl_LK ?_ pk_LK_layLink FI_LK (sn_no_ok _) co_LK_layLink ?_
  · intro vs σ post h
    unfold sp_LK_layLink at h
    split at h
    · exact Nat.le_of_ble_eq_true rfl
    · exact h.elim
  · intro vs σ post h hvs hR
    unfold sp_LK_layLink at h
    split at h
    · next q t l u m =>
      obtain ⟨t1, i⟩ := t
      obtain ⟨u1, j⟩ := u
      obtain ⟨rfl, ht, hu, T, a, b, s, va, vb, ha, hb, hv, hW, hl, hm, h1, h0⟩ := h
      have ht : t1 = 9 := ht
      have hu : u1 = 9 := hu
      subst ht hu
      intro G hG
      have va : sx_v (s_X a) i σ := va
      have vb : sx_v (s_X b) j σ := vb
      have ba := ha.1
      have bb := hb.1
      have idx : ∀ {S : sT} {x : Int}, s_ok T S → s_al S x → 0 ≤ x ∧ x < (100 : Nat) := fun hS hx => by have := hS.1.2.1; have := hx.1; have := hx.2.1; omega
      -- the edges of the link
      have at118 : ¬ l = -1 → ¬ m = -1 → s.2.1 l.toNat = -1 → a.1 0 l.toNat = b.1 0 m.toNat → ∀ x : Int, (cr a b l m → x = 1) → (¬ cr a b l m → x = 0) → G 118 [some (.inr (.inr (29, 0))), some (.inr (.inr (9, i))), some (.inl l), some (.inr (.inr (9, j))), some (.inl m), some (.inl x)] [] (sn_u σ.1 31 0 l.toNat m, σ.2) := by
        intro zl zm hL hk x hc1 hc0
        have hl := hl.resolve_left zl
        have hm := hm.resolve_left zm
        have el : l = (l.toNat : Int) := by have := hl.1; omega
        have em : m = (m.toNat : Int) := by have := hm.1; omega
        obtain ⟨a1, a2, -, a3, -⟩ := l_edg ha (l := l.toNat) (by rw [← el]; exact hl)
        obtain ⟨b1, b2, -, -, b3⟩ := l_edg hb (l := m.toNat) (by rw [← em]; exact hm)
        have il : 0 ≤ l ∧ l < (60 : Nat) := by have := hl.1; have := hl.2.1; omega
        have im : 0 ≤ m ∧ m < (60 : Nat) := by have := hm.1; have := hm.2.1; omega
        have f0 : sn_fr lk_P σ (sn_u σ.1 31 0 l.toNat m, σ.2) := sn_fr_u (sn_fr_rf _ σ) ⟨by omega, by omega⟩ m
        have v0 : lv (sn_u σ.1 31 0 l.toNat m, σ.2) (s.1, sn_up s.2.1 l.toNat m, s.2.2) := by
          refine ⟨fun e he => ?_, fun k hk => ?_, fun j e hj => ?_, ?_⟩
          · show sn_u σ.1 31 0 l.toNat m 30 0 e = _
            rw [sn_u_n (by omega)]
            exact hv.1 e he
          · show sn_u σ.1 31 0 l.toNat m 31 0 k = sn_up s.2.1 l.toNat m k
            rw [sn_u_at]
            unfold sn_up
            rw [hv.2.1 k hk]
          · show sn_u σ.1 31 0 l.toNat m 32 0 j = _
            rw [sn_u_n (by omega)]
            exact hv.2.2.1 j e hj
          · show sn_u σ.1 31 0 l.toNat m 29 0 3 = _
            rw [sn_u_n (by omega)]
            exact hv.2.2.2
        have W0 : lW a b (s.1, sn_up s.2.1 l.toNat m, s.2.2) := hW
        have va0 := sx_lk va f0
        have vb0 := sx_lk vb f0
        have ra1 : (sn_u σ.1 31 0 l.toNat m) 11 i = a.1 1 := va0.1 1 (by omega)
        have rb1 : (sn_u σ.1 31 0 l.toNat m) 11 j = b.1 1 := vb0.1 1 (by omega)
        have rb2 : (sn_u σ.1 31 0 l.toNat m) 12 j = b.1 2 := vb0.1 2 (by omega)
        have eL : ll a b s l m = ll2 a b (s.1, sn_up s.2.1 l.toNat m, s.2.2) l m := by
          unfold ll
          rw [if_neg (fun z => z.elim zl zm), if_neg (fun z => z hL), if_pos hk]
        rw [eL] at h1 h0
        have qq : ∀ {s1 : lkT}, lW a b s1 → ∀ {x : Int}, s_al a x → s1.1 x.toNat = -1 → s1.2.2.length < 100 := fun {s1} w {x} hx hz => lW_q w ba.2.1 (eal_n hx).1 hz
        have last : ∀ (s2 : lkT) (σ2 : sn_M), (∀ s', (if a.1 3 l.toNat = -1 then some s2 else le a b s2 (a.1 3 l.toNat) (b.1 3 m.toNat)) = s' → ll2 a b (s.1, sn_up s.2.1 l.toNat m, s.2.2) l m = s') → lW a b s2 → lv σ2 s2 → sn_fr lk_P σ σ2 → G 192 [some (.inr (.inr (29, 0))), some (.inr (.inr (9, i))), some (.inl l), some (.inr (.inr (9, j))), some (.inl m), some (.inl x)] [] σ2 := by
          intro s2 σ2 hs2 W2 v2 f2
          have va2 := sx_lk va f2
          have vb2 := sx_lk vb f2
          have ra3 : σ2.1 13 i = a.1 3 := va2.1 3 (by omega)
          have rb3 : σ2.1 13 j = b.1 3 := vb2.1 3 (by omega)
          refine hG 40 [] _ _ _ _ ?_
          refine And.intro il (And.intro (fun c => ?_) (fun c => ?_))
          · have c : σ2.1 13 i l.toNat = -1 := c
            rw [ra3] at c
            exact And.intro (Or.inr rfl) (h1 s2 σ2 (hs2 _ (if_pos c)) v2 f2)
          · have c : ¬ σ2.1 13 i l.toNat = -1 := c
            rw [ra3] at c
            have hs2 := hs2 _ (if_neg c)
            obtain ⟨a3, k12⟩ := a3.resolve_left c
            rw [hk] at k12
            have b3 := b3 k12
            refine And.intro il (And.intro im (lk_edge va2 vb2 v2 (show 0 ≤ σ2.1 13 i l.toNat ∧ σ2.1 13 i l.toNat < (100 : Nat) by rw [ra3]; exact idx ha a3) (show 0 ≤ σ2.1 13 j m.toNat ∧ σ2.1 13 j m.toNat < (100 : Nat) by rw [rb3]; exact idx hb b3) (show s2.1 (σ2.1 13 i l.toNat).toNat = -1 → _ by rw [ra3]; exact qq W2 a3) _ (fun s3 σ3 e3 v3 f3 => And.intro (fun z => absurd z (by decide)) (fun _ => And.intro (Or.inr rfl) (h1 s3 σ3 ?_ v3 (sn_fr_t f2 f3)))) (fun e3 => And.intro (fun _ => And.intro (Or.inl rfl) (h0 σ2 ?_ f2)) (fun z => absurd rfl z))))
            · have e3 : le a b s2 (σ2.1 13 i l.toNat) (σ2.1 13 j m.toNat) = some s3 := e3
              rw [ra3, rb3] at e3
              exact hs2.trans e3
            · have e3 : le a b s2 (σ2.1 13 i l.toNat) (σ2.1 13 j m.toNat) = none := e3
              rw [ra3, rb3] at e3
              exact hs2.trans e3
        by_cases c : cr a b l m
        · have ex : x = 1 := hc1 c
          subst ex
          refine hG 60 [192] _ _ _ _ ?_
          have g1 : le a b (s.1, sn_up s.2.1 l.toNat m, s.2.2) (a.1 1 l.toNat) (if cr a b l m then b.1 2 m.toNat else b.1 1 m.toNat) = le a b (s.1, sn_up s.2.1 l.toNat m, s.2.2) (a.1 1 l.toNat) (b.1 2 m.toNat) := by rw [if_pos c]
          refine And.intro il (And.intro (fun z => absurd z (by decide)) (fun _ => ?_))
          refine And.intro im (lk_edge va0 vb0 v0 (show 0 ≤ (sn_u σ.1 31 0 l.toNat m) 11 i l.toNat ∧ (sn_u σ.1 31 0 l.toNat m) 11 i l.toNat < (100 : Nat) by rw [ra1]; exact idx ha a1) (show 0 ≤ (sn_u σ.1 31 0 l.toNat m) 12 j m.toNat ∧ (sn_u σ.1 31 0 l.toNat m) 12 j m.toNat < (100 : Nat) by rw [rb2]; exact idx hb b2) (show s.1 ((sn_u σ.1 31 0 l.toNat m) 11 i l.toNat).toNat = -1 → _ by rw [ra1]; exact qq W0 a1) _ (fun s1 σ2 e1 v1 f1 => And.intro (fun z => absurd z (by decide)) (fun _ => ?_)) (fun e1 => And.intro (fun _ => And.intro (Or.inl rfl) (h0 _ ?_ f0)) (fun z => absurd rfl z)))
          case refine_2 =>
            have e1 : le a b (s.1, sn_up s.2.1 l.toNat m, s.2.2) ((sn_u σ.1 31 0 l.toNat m) 11 i l.toNat) ((sn_u σ.1 31 0 l.toNat m) 12 j m.toNat) = none := e1
            rw [ra1, rb2] at e1
            unfold ll2
            rw [g1, e1]
            rfl
          have e1 : le a b (s.1, sn_up s.2.1 l.toNat m, s.2.2) ((sn_u σ.1 31 0 l.toNat m) 11 i l.toNat) ((sn_u σ.1 31 0 l.toNat m) 12 j m.toNat) = some s1 := e1
          rw [ra1, rb2] at e1
          obtain ⟨W1, -, -, -⟩ := le_W W0 a1 b2 e1
          have f01 := sn_fr_t f0 f1
          have va1 := sx_lk va f01
          have vb1 := sx_lk vb f01
          have sa2 : σ2.1 12 i = a.1 2 := va1.1 2 (by omega)
          have sb1 : σ2.1 11 j = b.1 1 := vb1.1 1 (by omega)
          have sb2 : σ2.1 12 j = b.1 2 := vb1.1 2 (by omega)
          have g2 : le a b s1 (a.1 2 l.toNat) (if cr a b l m then b.1 1 m.toNat else b.1 2 m.toNat) = le a b s1 (a.1 2 l.toNat) (b.1 1 m.toNat) := by rw [if_pos c]
          refine And.intro il (And.intro (fun z => absurd z (by decide)) (fun _ => ?_))
          refine And.intro im (lk_edge va1 vb1 v1 (show 0 ≤ σ2.1 12 i l.toNat ∧ σ2.1 12 i l.toNat < (100 : Nat) by rw [sa2]; exact idx ha a2) (show 0 ≤ σ2.1 11 j m.toNat ∧ σ2.1 11 j m.toNat < (100 : Nat) by rw [sb1]; exact idx hb b1) (show s1.1 (σ2.1 12 i l.toNat).toNat = -1 → _ by rw [sa2]; exact qq W1 a2) _ (fun s2 σ3 e2 v2 f2 => And.intro (fun z => absurd z (by decide)) (fun _ => ?_)) (fun e2 => And.intro (fun _ => And.intro (Or.inl rfl) (h0 _ ?_ f01)) (fun z => absurd rfl z)))
          case refine_2 =>
            have e2 : le a b s1 (σ2.1 12 i l.toNat) (σ2.1 11 j m.toNat) = none := e2
            rw [sa2, sb1] at e2
            unfold ll2
            rw [g1, e1, Option.bind_some, g2, e2]
            rfl
          have e2 : le a b s1 (σ2.1 12 i l.toNat) (σ2.1 11 j m.toNat) = some s2 := e2
          rw [sa2, sb1] at e2
          refine last s2 σ3 (fun s' hs' => ?_) (le_W W1 a2 b1 e2).1 v2 (sn_fr_t f01 f2)
          unfold ll2
          rw [g1, e1, Option.bind_some, g2, e2, Option.bind_some]
          exact hs'
        · have ex : x = 0 := hc0 c
          subst ex
          refine hG 60 [192] _ _ _ _ ?_
          have g1 : le a b (s.1, sn_up s.2.1 l.toNat m, s.2.2) (a.1 1 l.toNat) (if cr a b l m then b.1 2 m.toNat else b.1 1 m.toNat) = le a b (s.1, sn_up s.2.1 l.toNat m, s.2.2) (a.1 1 l.toNat) (b.1 1 m.toNat) := by rw [if_neg c]
          refine And.intro il (And.intro (fun _ => ?_) (fun z => absurd rfl z))
          refine And.intro im (lk_edge va0 vb0 v0 (show 0 ≤ (sn_u σ.1 31 0 l.toNat m) 11 i l.toNat ∧ (sn_u σ.1 31 0 l.toNat m) 11 i l.toNat < (100 : Nat) by rw [ra1]; exact idx ha a1) (show 0 ≤ (sn_u σ.1 31 0 l.toNat m) 11 j m.toNat ∧ (sn_u σ.1 31 0 l.toNat m) 11 j m.toNat < (100 : Nat) by rw [rb1]; exact idx hb b1) (show s.1 ((sn_u σ.1 31 0 l.toNat m) 11 i l.toNat).toNat = -1 → _ by rw [ra1]; exact qq W0 a1) _ (fun s1 σ2 e1 v1 f1 => And.intro (fun z => absurd z (by decide)) (fun _ => ?_)) (fun e1 => And.intro (fun _ => And.intro (Or.inl rfl) (h0 _ ?_ f0)) (fun z => absurd rfl z)))
          case refine_2 =>
            have e1 : le a b (s.1, sn_up s.2.1 l.toNat m, s.2.2) ((sn_u σ.1 31 0 l.toNat m) 11 i l.toNat) ((sn_u σ.1 31 0 l.toNat m) 11 j m.toNat) = none := e1
            rw [ra1, rb1] at e1
            unfold ll2
            rw [g1, e1]
            rfl
          have e1 : le a b (s.1, sn_up s.2.1 l.toNat m, s.2.2) ((sn_u σ.1 31 0 l.toNat m) 11 i l.toNat) ((sn_u σ.1 31 0 l.toNat m) 11 j m.toNat) = some s1 := e1
          rw [ra1, rb1] at e1
          obtain ⟨W1, -, -, -⟩ := le_W W0 a1 b1 e1
          have f01 := sn_fr_t f0 f1
          have va1 := sx_lk va f01
          have vb1 := sx_lk vb f01
          have sa2 : σ2.1 12 i = a.1 2 := va1.1 2 (by omega)
          have sb1 : σ2.1 11 j = b.1 1 := vb1.1 1 (by omega)
          have sb2 : σ2.1 12 j = b.1 2 := vb1.1 2 (by omega)
          have g2 : le a b s1 (a.1 2 l.toNat) (if cr a b l m then b.1 1 m.toNat else b.1 2 m.toNat) = le a b s1 (a.1 2 l.toNat) (b.1 2 m.toNat) := by rw [if_neg c]
          refine And.intro il (And.intro (fun _ => ?_) (fun z => absurd rfl z))
          refine And.intro im (lk_edge va1 vb1 v1 (show 0 ≤ σ2.1 12 i l.toNat ∧ σ2.1 12 i l.toNat < (100 : Nat) by rw [sa2]; exact idx ha a2) (show 0 ≤ σ2.1 12 j m.toNat ∧ σ2.1 12 j m.toNat < (100 : Nat) by rw [sb2]; exact idx hb b2) (show s1.1 (σ2.1 12 i l.toNat).toNat = -1 → _ by rw [sa2]; exact qq W1 a2) _ (fun s2 σ3 e2 v2 f2 => And.intro (fun z => absurd z (by decide)) (fun _ => ?_)) (fun e2 => And.intro (fun _ => And.intro (Or.inl rfl) (h0 _ ?_ f01)) (fun z => absurd rfl z)))
          case refine_2 =>
            have e2 : le a b s1 (σ2.1 12 i l.toNat) (σ2.1 12 j m.toNat) = none := e2
            rw [sa2, sb2] at e2
            unfold ll2
            rw [g1, e1, Option.bind_some, g2, e2]
            rfl
          have e2 : le a b s1 (σ2.1 12 i l.toNat) (σ2.1 12 j m.toNat) = some s2 := e2
          rw [sa2, sb2] at e2
          refine last s2 σ3 (fun s' hs' => ?_) (le_W W1 a2 b2 e2).1 v2 (sn_fr_t f01 f2)
          unfold ll2
          rw [g1, e1, Option.bind_some, g2, e2, Option.bind_some]
          exact hs'
      have il : ¬ l = -1 → 0 ≤ l ∧ l < (60 : Nat) := fun z => by have := (hl.resolve_left z).1; have := (hl.resolve_left z).2.1; omega
      have im : ¬ m = -1 → 0 ≤ m ∧ m < (60 : Nat) := fun z => by have := (hm.resolve_left z).1; have := (hm.resolve_left z).2.1; omega
      have eq1 : l = -1 ∨ m = -1 → l = m → post (some (.inl 1)) σ := fun z y => h1 s σ (by unfold ll; rw [if_pos z, if_pos y]) hv (sn_fr_rf _ σ)
      have ne1 : l = -1 ∨ m = -1 → ¬ l = m → post (some (.inl 0)) σ := fun z y => h0 σ (by unfold ll; rw [if_pos z, if_neg y]) (sn_fr_rf _ σ)
      refine hG 60 [118] _ _ _ _ ?_
      refine And.intro (fun c => And.intro (fun d => And.intro (Or.inr rfl) (eq1 (Or.inl c) d)) (fun d => And.intro (Or.inl rfl) (ne1 (Or.inl c) d))) (fun zl => And.intro (fun c => And.intro (fun d => And.intro (Or.inr rfl) (eq1 (Or.inr c) d)) (fun d => And.intro (Or.inl rfl) (ne1 (Or.inr c) d))) (fun zm => ?_))
      have zl : ¬ l = -1 := zl
      have zm : ¬ m = -1 := zm
      have il := il zl
      have im := im zm
      have e1 : σ.1 31 0 l.toNat = s.2.1 l.toNat := hv.2.1 _ (by omega)
      have a0 : σ.1 10 i = a.1 0 := va.1 0 (by omega)
      have b0 : σ.1 10 j = b.1 0 := vb.1 0 (by omega)
      have nz : ¬ (l = -1 ∨ m = -1) := fun z => z.elim zl zm
      refine And.intro il (And.intro (fun c => ?_) (fun c => ?_))
      case refine_2 =>
        have c : ¬ σ.1 31 0 l.toNat = -1 := c
        rw [e1] at c
        refine And.intro il (And.intro (fun d => ?_) (fun d => ?_))
        · have d : σ.1 31 0 l.toNat = m := d
          rw [e1] at d
          exact And.intro (Or.inr rfl) (h1 s σ (by unfold ll; rw [if_neg nz, if_pos c, if_pos d]) hv (sn_fr_rf _ σ))
        · have d : ¬ σ.1 31 0 l.toNat = m := d
          rw [e1] at d
          exact And.intro (Or.inl rfl) (h0 σ (by unfold ll; rw [if_neg nz, if_pos c, if_neg d]) (sn_fr_rf _ σ))
      have c : σ.1 31 0 l.toNat = -1 := c
      rw [e1] at c
      refine And.intro il (And.intro im (And.intro (fun d => ?_) (fun d => ?_)))
      case refine_2 =>
        have d : ¬ σ.1 10 i l.toNat = σ.1 10 j m.toNat := d
        rw [a0, b0] at d
        exact And.intro (Or.inl rfl) (h0 σ (by unfold ll; rw [if_neg nz, if_neg (fun z => z c), if_neg d]) (sn_fr_rf _ σ))
      have d : σ.1 10 i l.toNat = σ.1 10 j m.toNat := d
      rw [a0, b0] at d
      have go := at118 zl zm c d
      have hl := hl.resolve_left zl
      have hm := hm.resolve_left zm
      have el : l = (l.toNat : Int) := by have := hl.1; omega
      have em : m = (m.toNat : Int) := by have := hm.1; omega
      obtain ⟨a1, -⟩ := l_edg ha (l := l.toNat) (by rw [← el]; exact hl)
      obtain ⟨b1, -⟩ := l_edg hb (l := m.toNat) (by rw [← em]; exact hm)
      have f0 : sn_fr lk_P σ (sn_u σ.1 31 0 l.toNat m, σ.2) := sn_fr_u (sn_fr_rf _ σ) ⟨by omega, by omega⟩ m
      have va0 := sx_lk va f0
      have vb0 := sx_lk vb f0
      have ra0 : (sn_u σ.1 31 0 l.toNat m) 10 i = a.1 0 := va0.1 0 (by omega)
      have ra1 : (sn_u σ.1 31 0 l.toNat m) 11 i = a.1 1 := va0.1 1 (by omega)
      have rb1 : (sn_u σ.1 31 0 l.toNat m) 11 j = b.1 1 := vb0.1 1 (by omega)
      have ra4 : (sn_u σ.1 31 0 l.toNat m) 14 i = a.1 4 := va0.1 4 (by omega)
      have rb4 : (sn_u σ.1 31 0 l.toNat m) 14 j = b.1 4 := vb0.1 4 (by omega)
      refine And.intro il (And.intro il (And.intro (fun k => ?_) (fun k => ?_)))
      · have k : (sn_u σ.1 31 0 l.toNat m) 10 i l.toNat = 0 := k
        rw [ra0] at k
        refine And.intro il (And.intro ?_ (And.intro im (And.intro ?_ (And.intro (fun y => ?_) (fun y => ?_)))))
        · show 0 ≤ (sn_u σ.1 31 0 l.toNat m) 11 i l.toNat ∧ (sn_u σ.1 31 0 l.toNat m) 11 i l.toNat < (100 : Nat)
          rw [ra1]
          exact idx ha a1
        · show 0 ≤ (sn_u σ.1 31 0 l.toNat m) 11 j m.toNat ∧ (sn_u σ.1 31 0 l.toNat m) 11 j m.toNat < (100 : Nat)
          rw [rb1]
          exact idx hb b1
        · have y : (sn_u σ.1 31 0 l.toNat m) 14 i ((sn_u σ.1 31 0 l.toNat m) 11 i l.toNat).toNat = (sn_u σ.1 31 0 l.toNat m) 14 j ((sn_u σ.1 31 0 l.toNat m) 11 j m.toNat).toNat := y
          rw [ra4, rb4, ra1, rb1] at y
          exact go 0 (fun z => absurd y z.2) (fun _ => rfl)
        · have y : ¬ (sn_u σ.1 31 0 l.toNat m) 14 i ((sn_u σ.1 31 0 l.toNat m) 11 i l.toNat).toNat = (sn_u σ.1 31 0 l.toNat m) 14 j ((sn_u σ.1 31 0 l.toNat m) 11 j m.toNat).toNat := y
          rw [ra4, rb4, ra1, rb1] at y
          exact go 1 (fun _ => rfl) (fun z => absurd ⟨k, y⟩ z)
      · have k : ¬ (sn_u σ.1 31 0 l.toNat m) 10 i l.toNat = 0 := k
        rw [ra0] at k
        exact go 0 (fun z => absurd z.1 k) (fun _ => rfl)
    · exact h.elim
def sp_LK_holds : sn_P := fun vs σ po => match vs with
  | [.inr (.inr q), .inr (.inr t), .inr (.inr u)] => q = (29, 0) ∧ t.1 = 9 ∧ u.1 = 9 ∧ ∃ (T : fT) (a b : sT), sx_v (s_X a) t.2 σ ∧ sx_v (s_X b) u.2 σ ∧ s_ok T a ∧ s_ok T b ∧ fT_ok T ∧ hc a ∧ 0 < a.2.2.2 ∧ 0 < b.2.2.2 ∧ ∀ (r : Int) (σ' : sn_M), ((r = 1 ∧ cn_ct (a.1 0) (-1) a.2.1 = cn_ct (b.1 0) (-1) b.2.1 ∧ a.2.2.2 = b.2.2.2 ∧ ∃ φ ψ, gm a b φ ψ) ∨ (r = 0 ∧ ¬ (cn_ct (a.1 0) (-1) a.2.1 = cn_ct (b.1 0) (-1) b.2.1 ∧ a.2.2.2 = b.2.2.2 ∧ ∃ φ ψ, gm a b φ ψ))) → sn_fr lk_P σ σ' → po (some (.inl r)) σ'
  | _ => False
def ca_LK_holds : List (Nat × Nat × Nat × sn_P) := [(33, 2, 0, sp_AR_fill), (42, 5, 2, sp_LK_layEdge), (49, 5, 2, sp_LK_layLink)]
theorem co_LK_holds : ∀ x n ci s', sn_lk ca_LK_holds x = some (n, ci, s') → sn_CO "SwitchedNets$Likeness" sn_ws 2 x n ci s' := sn_co_of (List.forall_mem_cons.mpr ⟨sn_CO_S ct_AR_fill (by decide) (by decide) (sn_gS ml_LK_33 mt_AR_fill mz_AR mc_AR_fill) ⟨nh_AR.1, nh_AR.2, pn_AR_fill⟩, List.forall_mem_cons.mpr ⟨sn_CO_V ("SwitchedNets$Likeness", T_LK, 4) ct_LK_layEdge (by decide) (by decide) (sn_gV ml_LK_42 mi_LK_layEdge ms_LK_layEdge mz_LK mc_LK_layEdge) (by decide) rfl rfl ⟨nh_LK.1, nh_LK.2, pn_LK_layEdge⟩, List.forall_mem_cons.mpr ⟨sn_CO_V ("SwitchedNets$Likeness", T_LK, 4) ct_LK_layLink (by decide) (by decide) (sn_gV ml_LK_49 mi_LK_layLink ms_LK_layLink mz_LK mc_LK_layLink) (by decide) rfl rfl ⟨nh_LK.1, nh_LK.2, pn_LK_layLink⟩, fun _ h => absurd h List.not_mem_nil⟩⟩⟩)
set_option maxHeartbeats 4000000 in
theorem ct_LK_holds : sn_CT y_LK_holds ws_LK_holds 2 sp_LK_holds := by
  refine sn_CT_of (pr := pr_LK_holds) (fi := (sn_lk ft_LK)) (lc := sn_no) (ca := sn_lk ca_LK_holds) pl_LK ?_ pk_LK_holds FI_LK (sn_no_ok _) co_LK_holds ?_
  · intro vs σ post h
    unfold sp_LK_holds at h
    split at h
    · exact Nat.le_of_ble_eq_true rfl
    · exact h.elim
  · intro vs σ post h hvs hR
    unfold sp_LK_holds at h
    split at h
    · next q t u =>
      obtain ⟨t1, i⟩ := t
      obtain ⟨u1, j⟩ := u
      obtain ⟨rfl, ht, hu, T, a, b, va, vb, ha, hb, hT, hca, a0, b0, hpo⟩ := h
      have ht : t1 = 9 := ht
      have hu : u1 = 9 := hu
      subst ht hu
      intro G hG
      have va : sx_v (s_X a) i σ := va
      have vb : sx_v (s_X b) j σ := vb
      have ba := ha.1
      have bb := hb.1
      have idx : ∀ {S : sT} {x : Int}, s_ok T S → s_al S x → 0 ≤ x ∧ x < (100 : Nat) := fun hS hx => by have := hS.1.2.1; have := hx.1; have := hx.2.1; omega
      have a11 : σ.1 9 i 11 = cn_ct (a.1 0) (-1) a.2.1 := sx_9 va (by omega)
      have b11 : σ.1 9 j 11 = cn_ct (b.1 0) (-1) b.2.1 := sx_9 vb (by omega)
      have a14 : σ.1 9 i 14 = (a.2.2.2 : Int) := sx_9 va (by omega)
      have b14 : σ.1 9 j 14 = (b.2.2.2 : Int) := sx_9 vb (by omega)
      -- no longer alike
      have at0 : (¬ ∃ φ ψ, gm a b φ ψ) → ∀ (x : Int) (σ1 : sn_M) (o5 o6 : Option sn_V), sn_fr lk_P σ σ1 → G 74 [some (.inr (.inr (29, 0))), some (.inr (.inr (9, i))), some (.inr (.inr (9, j))), some (.inl 0), some (.inl x), o5, o6] [] σ1 := by
        intro hno x σ1 o5 o6 f1
        refine hG 20 [74] _ _ _ _ ?_
        exact And.intro (fun _ => And.intro (Or.inl rfl) (hpo 0 σ1 (Or.inr ⟨rfl, fun z => hno z.2.2⟩) f1)) (fun z => absurd rfl z)
      have loop : cn_ct (a.1 0) (-1) a.2.1 = cn_ct (b.1 0) (-1) b.2.1 → a.2.2.2 = b.2.2.2 → ∀ (R : Bool), (R = true ↔ ∃ φ ψ, gm a b φ ψ) → ∀ (d n : Nat) (s : lkT) (σ1 : sn_M) (o5 o6 : Option sn_V), d + n = 100 → lv σ1 s → lW a b s → (∀ k, ¬ s.2.1 k = -1 → lad a b s k) → lh a b d s n = R → sn_fr lk_P σ σ1 → G 74 [some (.inr (.inr (29, 0))), some (.inr (.inr (9, i))), some (.inr (.inr (9, j))), some (.inl 1), some (.inl (n : Int)), o5, o6] [] σ1 := by
        intro hc1 hc2 R hR d
        have yes : ∀ σ1, R = true → sn_fr lk_P σ σ1 → post (some (.inl 1)) σ1 := fun σ1 hr f1 => hpo 1 σ1 (Or.inl ⟨rfl, hc1, hc2, hR.mp hr⟩) f1
        induction d with
        | zero =>
          intro n s σ1 o5 o6 hd v1 W1 L1 hl f1
          have hlen := lW_len W1
          have e3 : σ1.1 29 0 3 = (s.2.2.length : Int) := v1.2.2.2
          refine hG 30 [74] _ _ _ _ ?_
          refine And.intro (fun z => absurd z (by decide)) (fun _ => And.intro (fun c => ?_) (fun _ => And.intro (Or.inr rfl) (yes σ1 hl.symm f1)))
          have c : (n : Int) < σ1.1 29 0 3 := c
          omega
        | succ d ih =>
          intro n s σ1 o5 o6 hd v1 W1 L1 hl f1
          have e3 : σ1.1 29 0 3 = (s.2.2.length : Int) := v1.2.2.2
          by_cases hlt : n < s.2.2.length
          case neg =>
            refine hG 30 [74] _ _ _ _ ?_
            refine And.intro (fun z => absurd z (by decide)) (fun _ => And.intro (fun c => ?_) (fun _ => And.intro (Or.inr rfl) (yes σ1 ?_ f1)))
            · have c : (n : Int) < σ1.1 29 0 3 := c
              omega
            · rw [← hl]
              unfold lh
              rw [List.getElem?_eq_none (by omega)]
          obtain ⟨e, he⟩ : ∃ e, s.2.2[n]? = some e := ⟨s.2.2[n], List.getElem?_eq_getElem hlt⟩
          have hin := List.mem_of_getElem? he
          obtain ⟨w1, w2, -, -⟩ := W1.2.2 e hin
          have e5 := e_src ha w1
          have t5 := e_src hb (eal_n w2).1
          have l6 : a.1 6 e = -1 ∨ lal a (a.1 6 e) := (e_use ha w1).imp id (fun z => z.1)
          have m6 : b.1 6 (s.1 e).toNat = -1 ∨ lal b (b.1 6 (s.1 e).toNat) := (e_use hb (eal_n w2).1).imp id (fun z => z.1)
          have ie : (0 : Int) ≤ (e : Int) ∧ (e : Int) < (100 : Nat) := idx ha (eal_i w1)
          have jf : 0 ≤ s.1 e ∧ s.1 e < (100 : Nat) := idx hb w2
          have q1 : σ1.1 32 0 ((n : Int)).toNat = (e : Int) := v1.2.2.1 n e he
          have q2 : σ1.1 30 0 e = s.1 e := v1.1 e (by omega)
          have un : lh a b (d + 1) s n = (match lt a b s e with | none => false | some s' => lh a b d s' (n + 1)) := by
            show (match s.2.2[n]? with | none => true | some e => match lt a b s e with | none => false | some s' => lh a b d s' (n + 1)) = _
            rw [he]
          have bad : ∀ σ2 : sn_M, lt a b s e = none → sn_fr lk_P σ σ2 → ∀ o5 o6 : Option sn_V, sn_R ((n : Int) + 1) ∧ G 74 [some (.inr (.inr (29, 0))), some (.inr (.inr (9, i))), some (.inr (.inr (9, j))), some (.inl 0), some (.inl ((n : Int) + 1)), o5, o6] [] σ2 := by
            intro σ2 hz f2 o5 o6
            refine And.intro (by unfold sn_R; omega) (at0 (fun z => ?_) _ σ2 o5 o6 f2)
            have := hR.mpr z
            rw [← hl, un, hz] at this
            cases this
          have at112 : G 112 [some (.inr (.inr (29, 0))), some (.inr (.inr (9, i))), some (.inr (.inr (9, j))), some (.inl 1), some (.inl (n : Int)), some (.inl (e : Int)), some (.inl (s.1 e))] [] σ1 := by
            have va1 := sx_lk va f1
            have vb1 := sx_lk vb f1
            have ra5 : σ1.1 15 i = a.1 5 := va1.1 5 (by omega)
            have rb5 : σ1.1 15 j = b.1 5 := vb1.1 5 (by omega)
            refine hG 60 [74] _ _ _ _ ?_
            refine And.intro ie (And.intro jf (And.intro rfl (And.intro rfl (And.intro rfl ⟨T, a, b, s, va1, vb1, ha, hb, v1, W1, ?_, ?_, fun s1 σ2 h1 v2 f2 => ?_, fun σ2 h1 f2 => ?_⟩))))
            · show σ1.1 15 i e = -1 ∨ lal a (σ1.1 15 i e)
              rw [ra5]
              exact Or.inr e5.1
            · show σ1.1 15 j (s.1 e).toNat = -1 ∨ lal b (σ1.1 15 j (s.1 e).toNat)
              rw [rb5]
              exact Or.inr t5.1
            · have h1 : ll a b s (σ1.1 15 i e) (σ1.1 15 j (s.1 e).toNat) = some s1 := h1
              rw [ra5, rb5] at h1
              have f12 := sn_fr_t f1 f2
              have va2 := sx_lk va f12
              have vb2 := sx_lk vb f12
              have ra6 : σ2.1 16 i = a.1 6 := va2.1 6 (by omega)
              have rb6 : σ2.1 16 j = b.1 6 := vb2.1 6 (by omega)
              obtain ⟨W2, L2, -, -⟩ := ll_W ha hb W1 L1 (Or.inr e5.1) (Or.inr t5.1) h1
              refine And.intro (fun z => absurd z (by decide)) (fun _ => And.intro ie (And.intro jf (And.intro rfl (And.intro rfl (And.intro rfl ⟨T, a, b, s1, va2, vb2, ha, hb, v2, W2, ?_, ?_, fun s2 σ3 h2 v3 f3 => ?_, fun σ3 h2 f3 => ?_⟩)))))
              · show σ2.1 16 i e = -1 ∨ lal a (σ2.1 16 i e)
                rw [ra6]
                exact l6
              · show σ2.1 16 j (s.1 e).toNat = -1 ∨ lal b (σ2.1 16 j (s.1 e).toNat)
                rw [rb6]
                exact m6
              · have h2 : ll a b s1 (σ2.1 16 i e) (σ2.1 16 j (s.1 e).toNat) = some s2 := h2
                rw [ra6, rb6] at h2
                have hlt : lt a b s e = some s2 := by unfold lt; rw [h1, Option.bind_some]; exact h2
                obtain ⟨W3, L3, -, -⟩ := lt_W ha hb W1 L1 hin hlt
                rw [un, hlt] at hl
                exact And.intro (fun z => absurd z (by decide)) (fun _ => And.intro (by unfold sn_R; omega) (ih (n + 1) s2 σ3 _ _ (by omega) v3 W3 L3 hl (sn_fr_t f12 f3)))
              · have h2 : ll a b s1 (σ2.1 16 i e) (σ2.1 16 j (s.1 e).toNat) = none := h2
                rw [ra6, rb6] at h2
                exact And.intro (fun _ => bad σ3 (by unfold lt; rw [h1, Option.bind_some]; exact h2) (sn_fr_t f12 f3) _ _) (fun z => absurd rfl z)
            · have h1 : ll a b s (σ1.1 15 i e) (σ1.1 15 j (s.1 e).toNat) = none := h1
              rw [ra5, rb5] at h1
              exact And.intro (fun _ => bad σ2 (by unfold lt; rw [h1]; rfl) (sn_fr_t f1 f2) _ _) (fun z => absurd rfl z)
          refine hG 30 [112] _ _ _ _ ?_
          refine And.intro (fun z => absurd z (by decide)) (fun _ => And.intro (fun _ => And.intro (fun _ => And.intro (show (0 : Int) ≤ (n : Int) ∧ (n : Int) < (100 : Nat) by omega) (And.intro ?_ ?_)) (fun c => ?_)) (fun c => ?_))
          · show 0 ≤ σ1.1 32 0 ((n : Int)).toNat ∧ σ1.1 32 0 ((n : Int)).toNat < (100 : Nat)
            rw [q1]
            exact ie
          · show G 112 [some (.inr (.inr (29, 0))), some (.inr (.inr (9, i))), some (.inr (.inr (9, j))), some (.inl 1), some (.inl (n : Int)), some (.inl (σ1.1 32 0 ((n : Int)).toNat)), some (.inl (σ1.1 30 0 (σ1.1 32 0 ((n : Int)).toNat).toNat))] [] σ1
            rw [q1, show ((e : Int)).toNat = e from rfl, q2]
            exact at112
          · have c : (100 : Int) ≤ (n : Int) := c
            omega
          · have c : σ1.1 29 0 3 ≤ (n : Int) := c
            omega
      have no : ∀ z : ¬ (cn_ct (a.1 0) (-1) a.2.1 = cn_ct (b.1 0) (-1) b.2.1 ∧ a.2.2.2 = b.2.2.2 ∧ ∃ φ ψ, gm a b φ ψ), post (some (.inl 0)) σ := fun z => hpo 0 σ (Or.inr ⟨rfl, z⟩) (sn_fr_rf _ σ)
      refine hG 60 [74] _ _ _ _ ?_
      refine And.intro (fun c1 => And.intro (fun c2 => And.intro (fun c3 => ?_) (fun _ => ?_)) (fun c2 => ?_)) (fun c1 => ?_)
      · have c3 : σ.1 9 i 14 = 0 := c3
        omega
      · have c1 : σ.1 9 i 11 = σ.1 9 j 11 := c1
        have c2 : σ.1 9 i 14 = σ.1 9 j 14 := c2
        rw [a11, b11] at c1
        have c2 : a.2.2.2 = b.2.2.2 := by omega
        refine And.intro (Or.inl rfl) (fun p p1 _ => And.intro (Or.inr (Or.inl rfl)) (fun p' p1' _ => ?_))
        have p1 : ∀ x, x < 100 → p x = -1 := p1
        have p1' : ∀ x, x < 60 → p' x = -1 := p1'
        have f1 : sn_fr lk_P σ (sn_u (sn_ov (sn_ov σ 30 0 p) 31 0 p').1 29 0 3 0, σ.2) := by
          refine ⟨rfl, fun x y z hn => ?_⟩
          show sn_u (sn_ov (sn_ov σ 30 0 p) 31 0 p').1 29 0 3 0 x y z = _
          rw [sn_u_n (fun w => hn ⟨by omega, by omega⟩), sn_ov_n (fun w => hn ⟨by omega, by omega⟩), sn_ov_n (fun w => hn ⟨by omega, by omega⟩)]
        have v1 : lv (sn_u (sn_ov (sn_ov σ 30 0 p) 31 0 p').1 29 0 3 0, σ.2) (fun _ => -1, fun _ => -1, []) := by
          refine ⟨fun x hx => ?_, fun x hx => ?_, fun x y hxy => ?_, ?_⟩
          · show sn_u (sn_ov (sn_ov σ 30 0 p) 31 0 p').1 29 0 3 0 30 0 x = -1
            rw [sn_u_n (by omega), sn_ov_n (by omega), sn_ov_s]
            exact p1 x hx
          · show sn_u (sn_ov (sn_ov σ 30 0 p) 31 0 p').1 29 0 3 0 31 0 x = -1
            rw [sn_u_n (by omega), sn_ov_s]
            exact p1' x hx
          · simp at hxy
          · show sn_u (sn_ov (sn_ov σ 30 0 p) 31 0 p').1 29 0 3 0 29 0 3 = _
            rw [sn_u_s]
            rfl
        have va1 := sx_lk va f1
        have vb1 := sx_lk vb f1
        have ra8 : (sn_u (sn_ov (sn_ov σ 30 0 p) 31 0 p').1 29 0 3 0) 18 i = a.1 8 := va1.1 8 (by omega)
        have rb8 : (sn_u (sn_ov (sn_ov σ 30 0 p) 31 0 p').1 29 0 3 0) 18 j = b.1 8 := vb1.1 8 (by omega)
        have ca := (ha.2.2.2.1 0 a0).1
        have cb := (hb.2.2.2.1 0 b0).1
        have z0 : (0 : Int) ≤ 0 ∧ (0 : Int) < (100 : Nat) := by omega
        have W0 : lW a b (fun _ => -1, fun _ => -1, []) := ⟨List.nodup_nil, fun e => ⟨fun z => (by cases z), fun z => absurd rfl z⟩, fun e he => (by cases he)⟩
        refine And.intro z0 (And.intro z0 (lk_edge va1 vb1 v1 (show 0 ≤ (sn_u (sn_ov (sn_ov σ 30 0 p) 31 0 p').1 29 0 3 0) 18 i 0 ∧ (sn_u (sn_ov (sn_ov σ 30 0 p) 31 0 p').1 29 0 3 0) 18 i 0 < (100 : Nat) by rw [ra8]; exact idx ha ca) (show 0 ≤ (sn_u (sn_ov (sn_ov σ 30 0 p) 31 0 p').1 29 0 3 0) 18 j 0 ∧ (sn_u (sn_ov (sn_ov σ 30 0 p) 31 0 p').1 29 0 3 0) 18 j 0 < (100 : Nat) by rw [rb8]; exact idx hb cb) (fun _ => by decide) _ (fun s1 σ2 e1 v2 f2 => ?_) (fun e1 => ?_)))
        · have e1 : le a b (fun _ => -1, fun _ => -1, []) ((sn_u (sn_ov (sn_ov σ 30 0 p) 31 0 p').1 29 0 3 0) 18 i 0) ((sn_u (sn_ov (sn_ov σ 30 0 p) 31 0 p').1 29 0 3 0) 18 j 0) = some s1 := e1
          rw [ra8, rb8] at e1
          obtain ⟨W1, -, -, g1⟩ := le_W W0 ca cb e1
          refine loop c1 c2 (lh a b 100 s1 0) ⟨fun z => lk_gm ha hb hca a0 b0 e1 (by omega) z, fun ⟨φ, ψ, g⟩ => ?_⟩ 100 0 s1 σ2 _ _ rfl v2 W1 (fun k z => absurd (by rw [g1]) z) rfl (sn_fr_t f1 f2)
          obtain ⟨s', hs', hn⟩ := gm_lk hT ha hb a0 b0 g
          rw [e1] at hs'
          cases hs'
          exact hn 100
        · have e1 : le a b (fun _ => -1, fun _ => -1, []) ((sn_u (sn_ov (sn_ov σ 30 0 p) 31 0 p').1 29 0 3 0) 18 i 0) ((sn_u (sn_ov (sn_ov σ 30 0 p) 31 0 p').1 29 0 3 0) 18 j 0) = none := e1
          rw [ra8, rb8] at e1
          refine at0 (fun ⟨φ, ψ, g⟩ => ?_) _ _ _ _ f1
          obtain ⟨s', hs', -⟩ := gm_lk hT ha hb a0 b0 g
          rw [e1] at hs'
          cases hs'
      · have c2 : ¬ σ.1 9 i 14 = σ.1 9 j 14 := c2
        exact And.intro (Or.inl rfl) (no (fun z => c2 (by rw [a14, b14, z.2.1])))
      · have c1 : ¬ σ.1 9 i 11 = σ.1 9 j 11 := c1
        exact And.intro (Or.inl rfl) (no (fun z => c1 (by rw [a11, b11, z.1])))
    · exact h.elim
def ca_SN_same : List (Nat × Nat × Nat × sn_P) := [(165, 2, 6, sp_SW_weigh), (185, 3, 2, sp_LK_holds)]
theorem co_SN_same : ∀ x n ci s', sn_lk ca_SN_same x = some (n, ci, s') → sn_CO "SwitchedNets" sn_ws 4 x n ci s' := sn_co_of (List.forall_mem_cons.mpr ⟨sn_CO_V ("SwitchedNets$Switchings", T_SW, 5) ct_SW_weigh (by decide) (by decide) (sn_gV ml_SN_165 mi_SW_weigh ms_SW_weigh mz_SW mc_SW_weigh) (by decide) rfl rfl ⟨nh_SW.1, nh_SW.2, pn_SW_weigh⟩, List.forall_mem_cons.mpr ⟨sn_CO_V ("SwitchedNets$Likeness", T_LK, 4) ct_LK_holds (by decide) (by decide) (sn_gV ml_SN_185 mi_LK_holds ms_LK_holds mz_LK mc_LK_holds) (by decide) rfl rfl ⟨nh_LK.1, nh_LK.2, pn_LK_holds⟩, fun _ h => absurd h List.not_mem_nil⟩⟩)
def sp_SN_same : sn_P := sn_wp pr_SN_same (sn_lk ft_SN) sn_no (sn_lk ca_SN_same) 1 25
theorem ct_SN_same : sn_CT y_SN_same ws_SN_same 4 sp_SN_same := sn_CT_wp 25 pl_SN pk_SN_same FI_SN (sn_no_ok _) co_SN_same
