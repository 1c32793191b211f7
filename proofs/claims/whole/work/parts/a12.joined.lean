/-! What is joined to a link: the reference's search. -/
theorem eg_cn {T : fT} {S : sT} (h : s_ok T S) {P : Nat → Bool} {e : Int} (he : s_al S e) {u v : Nat} (hu : S.1 5 e.toNat = (u : Int)) (hv : S.1 6 e.toNat = (v : Int)) (hP : P v = true) : cn (pG S P) u v := by
  obtain ⟨-, u2⟩ := s_us h he
  obtain ⟨v1, v2, v3⟩ := u2 v hv
  have v4 := s_k3 h v v1
  rcases v3 with z | z
  · have : sl S v = u := by unfold sl; rw [z, hu]; rfl
    exact cn_in (q := (u, v)) (pG_in.mpr ⟨v, v1, ⟨v2, v4⟩, hP, Or.inl (by rw [this])⟩)
  · have : sr S v = u := by unfold sr; rw [z, hu]; rfl
    exact cn_in (q := (u, v)) (pG_in.mpr ⟨v, v1, ⟨v2, v4⟩, hP, Or.inr (by rw [this])⟩)
theorem pG_eg {T : fT} {S : sT} (h : s_ok T S) {P : Nat → Bool} (hP : upc S P) {q : Nat × Nat} (hq : q ∈ pG S P) : (P q.1 = true ∧ P q.2 = true) ∧ ∃ e : Nat, e < S.2.2.1 ∧ 0 ≤ S.1 4 e ∧ S.1 5 e = (q.1 : Int) ∧ S.1 6 e = (q.2 : Int) := by
  obtain ⟨m, m1, m2, m3, m4⟩ := pG_in.mp hq
  obtain ⟨p1, p2⟩ := hP.2 m m3 m2.1
  obtain ⟨a1, a2, -, a4, a5⟩ := (h.2.1 m m1).2.2.1 m2.1
  obtain ⟨⟨-, s2⟩, -, s4⟩ := s_src h m1 m2.1
  rcases m4 with rfl | rfl
  · refine ⟨⟨p1, m3⟩, (S.1 1 m).toNat, by have := a1.1; have := a1.2.1; omega, a1.2.2, ?_, a4⟩
    show _ = ((sl S m : Nat) : Int)
    unfold sl
    omega
  · refine ⟨⟨p2, m3⟩, (S.1 2 m).toNat, by have := a2.1; have := a2.2.1; omega, a2.2.2, ?_, a5⟩
    show _ = ((sr S m : Nat) : Int)
    unfold sr
    omega
def jI (S : sT) (P : Nat → Bool) (f : Nat) (F : Int64) : Prop := ib F f = true ∧ ∀ v, ib F v = true → P v = true ∧ cn (pG S P) f v
def jc (S : sT) (P : Nat → Bool) (F : Int64) (n : Nat) : Prop := ∀ e u v : Nat, e < n → 0 ≤ S.1 4 e → S.1 5 e = (u : Int) → S.1 6 e = (v : Int) → P u = true → P v = true → (ib F u = true ↔ ib F v = true)
theorem jc_end {T : fT} {S : sT} (h : s_ok T S) {P : Nat → Bool} (hP : upc S P) {f : Nat} {F : Int64} (hI : jI S P f F) (hc : jc S P F S.2.2.1) : ∀ v, ib F v = true ↔ (P v = true ∧ cn (pG S P) f v) := by
  refine fun v => ⟨fun z => hI.2 v z, fun ⟨z1, z2⟩ => ?_⟩
  have := cn_least (P := fun a b => (ib F a = true ↔ ib F b = true)) (fun _ => Iff.rfl) (fun _ _ h => h.symm) (fun _ _ _ h g => h.trans g) (fun q hq => by
    obtain ⟨⟨p1, p2⟩, e, e1, e2, e3, e4⟩ := pG_eg h hP hq
    exact hc e q.1 q.2 e1 e2 e3 e4 p1 p2) z2
  exact this.mp hI.1
theorem fil_le {A : List Nat} {p q : Nat → Bool} (h : ∀ x, p x = true → q x = true) : (A.filter p).length ≤ (A.filter q).length := by
  induction A with
  | nil => exact Nat.le_refl _
  | cons a t ih =>
    cases hp : p a with
    | true => rw [List.filter_cons_of_pos hp, List.filter_cons_of_pos (h a hp), List.length_cons, List.length_cons]; omega
    | false =>
      rw [List.filter_cons_of_neg (by rw [hp]; decide)]
      cases hq : q a with
      | true => rw [List.filter_cons_of_pos hq, List.length_cons]; omega
      | false => rw [List.filter_cons_of_neg (by rw [hq]; decide)]; exact ih
theorem fil_lt {A : List Nat} {p q : Nat → Bool} (h : ∀ x, p x = true → q x = true) {y : Nat} (hy : y ∈ A) (h1 : q y = true) (h2 : ¬ p y = true) : (A.filter p).length < (A.filter q).length := by
  induction A with
  | nil => cases hy
  | cons a t ih =>
    by_cases e : y = a
    · subst e
      rw [List.filter_cons_of_neg h2, List.filter_cons_of_pos h1, List.length_cons]
      have := fil_le (A := t) h
      omega
    · have ih := ih (by
        rcases List.mem_cons.mp hy with z | z
        · exact absurd z e
        · exact z)
      cases hp : p a with
      | true => rw [List.filter_cons_of_pos hp, List.filter_cons_of_pos (h a hp), List.length_cons, List.length_cons]; omega
      | false =>
        rw [List.filter_cons_of_neg (by rw [hp]; decide)]
        cases hq : q a with
        | true => rw [List.filter_cons_of_pos hq, List.length_cons]; omega
        | false => rw [List.filter_cons_of_neg (by rw [hq]; decide)]; exact ih
def jm (S : sT) (P : Nat → Bool) (F : Int64) : Nat := (pA S P).length - ((pA S P).filter (ib F)).length
theorem jm_lt {S : sT} {P : Nat → Bool} (hP : upc S P) {f : Nat} {F F' : Int64} (hI : jI S P f F') (h : ∀ v, ib F v = true → ib F' v = true) (hne : ¬ F' = F) : jm S P F' < jm S P F := by
  obtain ⟨y, y1, y2⟩ : ∃ y, ib F' y = true ∧ ¬ ib F y = true := Classical.byContradiction (fun z => hne (ib_eq (fun v => ⟨fun w => Classical.byContradiction (fun x => z ⟨v, w, x⟩), h v⟩)))
  have py := (hI.2 y y1).1
  have := fil_lt (A := pA S P) h (pA_in.mpr ⟨sA_in.mpr (hP.1 y py), py⟩) y1 y2
  have := List.length_filter_le (ib F') (pA S P)
  unfold jm
  omega
/-- one edge looked at -/
theorem jc_s {S : sT} {P : Nat → Bool} {F0 F1 F2 : Int64} {n : Nat} (h01 : ∀ v, ib F0 v = true → ib F1 v = true) (h12 : ∀ v, ib F1 v = true → ib F2 v = true) (hc : F1 = F0 → jc S P F0 n) (hn : ∀ u v : Nat, 0 ≤ S.1 4 n → S.1 5 n = (u : Int) → S.1 6 n = (v : Int) → P u = true → P v = true → (ib F2 u = true ↔ ib F2 v = true)) : F2 = F0 → jc S P F0 (n + 1) := by
  intro e
  subst e
  have e1 : F1 = F2 := ib_eq (fun v => ⟨h12 v, h01 v⟩)
  intro k u v hk
  by_cases z : k = n
  · subst z
    exact hn u v
  · exact hc e1 k u v (by omega)
theorem jI_s {S : sT} {P : Nat → Bool} {f : Nat} {F : Int64} (hP : upc S P) (h60 : S.2.1 ≤ 60) (hI : jI S P f F) {u v : Nat} (hu : P u = true) (hv : P v = true) (hc : cn (pG S P) u v) (h : ib F u = true ∨ ib F v = true) : jI S P f (F ||| sn_shl 1 (u : Int) ||| sn_shl 1 (v : Int)) ∧ (∀ w, ib F w = true → ib (F ||| sn_shl 1 (u : Int) ||| sn_shl 1 (v : Int)) w = true) ∧ ib (F ||| sn_shl 1 (u : Int) ||| sn_shl 1 (v : Int)) u = true ∧ ib (F ||| sn_shl 1 (u : Int) ||| sn_shl 1 (v : Int)) v = true := by
  have u6 := (hP.1 u hu).1
  have v6 := (hP.1 v hv).1
  have key : ∀ w, w < 64 → (ib (F ||| sn_shl 1 (u : Int) ||| sn_shl 1 (v : Int)) w = true ↔ (ib F w = true ∨ w = u ∨ w = v)) := fun w hw => by
    rw [ib_or, ib_or, ib_bit (by omega) hw, ib_bit (by omega) hw, Bool.or_eq_true, Bool.or_eq_true, decide_eq_true_eq, decide_eq_true_eq, or_assoc]
  have cu : cn (pG S P) f u := by
    rcases h with h | h
    · exact (hI.2 u h).2
    · exact cn_tr (hI.2 v h).2 (cn_sy hc)
  refine ⟨⟨(key f (ib_64 hI.1)).mpr (Or.inl hI.1), fun w hw => ?_⟩, fun w hw => (key w (ib_64 hw)).mpr (Or.inl hw), (key u (by omega)).mpr (Or.inr (Or.inl rfl)), (key v (by omega)).mpr (Or.inr (Or.inr rfl))⟩
  rcases (key w (ib_64 hw)).mp hw with z | rfl | rfl
  · exact hI.2 w z
  · exact ⟨hu, cu⟩
  · exact ⟨hv, cn_tr cu hc⟩
/-- the reference's structure, as far as it is there -/
def mq (S : sT) (σ : sn_M) : Prop := (∀ a l, a < 4 → l < S.2.1 → σ.1 (49 + a) 0 l = S.1 a l) ∧ (∀ a e, 4 ≤ a → a < 8 → e < S.2.2.1 → σ.1 (49 + a) 0 e = S.1 a e) ∧ σ.1 46 0 0 = (S.2.1 : Int) ∧ σ.1 47 0 0 = (S.2.2.1 : Int)
theorem mq_of {T : fT} {S S' : sT} {σ : sn_M} (h : my_s T S S' 0 σ) : mq S σ := ⟨fun a l ha hl => ms_l h ha hl rfl (by omega), fun a e h1 h2 he => ms_e h h1 h2 he rfl (by omega), (ms_46 h).1, (ms_46 h).2.1⟩
theorem mq_fr {S : sT} {σ σ' : sn_M} (h : mq S σ) (f : ∀ a c, 46 ≤ a → a ≤ 57 → σ'.1 a 0 c = σ.1 a 0 c) : mq S σ' := ⟨fun a l ha hl => by rw [f _ _ (by omega) (by omega)]; exact h.1 a l ha hl, fun a e h1 h2 he => by rw [f _ _ (by omega) (by omega)]; exact h.2.1 a e h1 h2 he, by rw [f _ _ (by omega) (by omega)]; exact h.2.2.1, by rw [f _ _ (by omega) (by omega)]; exact h.2.2.2⟩
theorem mq_ok {T : fT} {S : sT} {σ : sn_M} (h : mq S σ) (hok : s_ok T S) : md_ok σ 0 := by
  have b1 := hok.1.1
  have b2 := hok.1.2.1
  have e1 := h.2.2.1
  have e2 := h.2.2.2
  exact ⟨by omega, by omega, by omega⟩
theorem mq_e {S : sT} {σ : sn_M} (h : mq S σ) {e : Nat} (he : e < S.2.2.1) : md_e σ 0 (e : Int) ↔ 0 ≤ S.1 4 e := by
  have r : σ.1 53 0 e = S.1 4 e := h.2.1 4 e (by omega) (by omega) he
  have e2 := h.2.2.2
  show ((0 : Int) ≤ (e : Int) ∧ (e : Int) < σ.1 47 0 0 ∧ 0 ≤ σ.1 53 0 (100 * 0 + e)) ↔ _
  rw [show 100 * 0 + e = e by omega, r, e2]
  exact ⟨fun z => z.2.2, fun z => ⟨by omega, by omega, z⟩⟩
def ca_MD_isIn : List (Nat × Nat × Nat × sn_P) := []
theorem co_MD_isIn : ∀ x n ci s', sn_lk ca_MD_isIn x = some (n, ci, s') → sn_CO "SwitchedNetsModel" sn_ws 0 x n ci s' := fun _ _ _ _ h => by cases h
def sp_MD_isIn : sn_P := sn_wp pr_MD_isIn (sn_lk ft_MD) (sn_lk lc_MD) (sn_lk ca_MD_isIn) 3 15
theorem ct_MD_isIn : sn_CT y_MD_isIn ws_MD_isIn 0 sp_MD_isIn := sn_CT_wp 15 pl_MD pk_MD_isIn FI_MD LC_MD co_MD_isIn
theorem md_isIn {m : Int64} {x : Int} (hx : x < 64) {σ : sn_M} (po : Option sn_V → sn_M → Prop) (h1 : ∀ v : Nat, x = (v : Int) → ib m v = true → po (some (.inl 1)) σ) (h0 : (∀ v : Nat, x = (v : Int) → ¬ ib m v = true) → po (some (.inl 0)) σ) : sp_MD_isIn [.inr (.inl m), .inl x] σ po := by
  refine fun G => And.intro (fun z => And.intro (Or.inl rfl) (h0 (fun v e => ?_))) (fun z => ?_)
  · have z : x < 0 := z
    omega
  · have z : 0 ≤ x := z
    obtain ⟨v, rfl⟩ := Int.eq_ofNat_of_zero_le z
    have hv : v < 64 := by omega
    refine And.intro (fun c => And.intro (Or.inr rfl) (h1 v rfl ((ib_is hv).mp (cmp_0.mp c)))) (fun c => And.intro (Or.inl rfl) (h0 (fun w e y => ?_)))
    have : w = v := by omega
    subst this
    exact c (cmp_0.mpr ((ib_is hv).mpr y))
def sp_MD_joined : sn_P := fun vs σ po => match vs with
  | [.inr (.inr q), .inr (.inl W), .inl x] => q = (40, 0) ∧ ∃ (T : fT) (S : sT) (f : Nat), mq S σ ∧ s_ok T S ∧ upc S (ib W) ∧ x = (f : Int) ∧ ib W f = true ∧ ∀ (R : Int64), (∀ v, ib R v = true ↔ (ib W v = true ∧ cn (pG S (ib W)) f v)) → po (some (.inr (.inl R))) σ
  | _ => False
def ca_MD_joined : List (Nat × Nat × Nat × sn_P) := [(108, 3, 8, sp_MD_isEdge), (196, 2, 0, sp_MD_isIn)]
theorem co_MD_joined : ∀ x n ci s', sn_lk ca_MD_joined x = some (n, ci, s') → sn_CO "SwitchedNetsModel" sn_ws 1 x n ci s' := sn_co_of (List.forall_mem_cons.mpr ⟨sn_CO_V ("SwitchedNetsModel", T_MD, 29) ct_MD_isEdge (by decide) (by decide) (sn_gV ml_MD_108 mi_MD_isEdge ms_MD_isEdge mz_MD mc_MD_isEdge) (by decide) rfl rfl ⟨nh_MD.1, nh_MD.2, pn_MD_isEdge⟩, List.forall_mem_cons.mpr ⟨sn_CO_S ct_MD_isIn (by decide) (by decide) (sn_gS ml_MD_196 mt_MD_isIn mz_MD mc_MD_isIn) ⟨nh_MD.1, nh_MD.2, pn_MD_isIn⟩, fun _ h => absurd h List.not_mem_nil⟩⟩)
set_option maxHeartbeats 4000000 in
theorem ct_MD_joined : sn_CT y_MD_joined ws_MD_joined 1 sp_MD_joined := by
  refine sn_CT_of (pr := pr_MD_joined) (fi := (sn_lk ft_MD)) (lc := (sn_lk lc_MD)) (ca := sn_lk ca_MD_joined) pl_MD ?_ pk_MD_joined FI_MD LC_MD co_MD_joined ?_
  · intro vs σ post h
    unfold sp_MD_joined at h
    split at h
    · exact Nat.le_of_ble_eq_true rfl
    · exact h.elim
  · intro vs σ post h hvs hR
    unfold sp_MD_joined at h
    split at h
    · next q W x =>
      obtain ⟨rfl, T, S, f, hm, hok, hP, rfl, hf, hpo⟩ := h
      intro G hG
      have b1 := hok.1.1
      have b2 := hok.1.2.1
      have e47 : σ.1 47 0 0 = (S.2.2.1 : Int) := hm.2.2.2
      have hmd := mq_ok hm hok
      have i0 : (0 : Int) ≤ 0 ∧ (0 : Int) < (4 : Nat) := by omega
      have fin : ∀ (F : Int64) (o8 o9 : Option sn_V), jI S (ib W) f F → jc S (ib W) F S.2.2.1 → G 8 [some (.inr (.inr (40, 0))), some (.inr (.inl W)), none, some (.inl (f : Int)), some (.inr (.inl F)), none, some (.inr (.inl F)), none, o8, o9] [] σ := by
        intro F o8 o9 hI hc
        refine hG 20 [23, 8] _ _ _ _ ?_
        exact And.intro (fun _ => hpo F (jc_end hok hP hI hc)) (fun c => absurd (cmp_0.mpr rfl) c)
      have outer : ∀ (d : Nat) (F B : Int64) (o8 o9 : Option sn_V), jm S (ib W) F < d → jI S (ib W) f F → (B = F → jc S (ib W) F S.2.2.1) → G 8 [some (.inr (.inr (40, 0))), some (.inr (.inl W)), none, some (.inl (f : Int)), some (.inr (.inl F)), none, some (.inr (.inl B)), none, o8, o9] [] σ := by
        intro d
        induction d with
        | zero => intro F B o8 o9 hd; exact absurd hd (Nat.not_lt_zero _)
        | succ d ih =>
          intro F B o8 o9 hd hI hc
          by_cases e : B = F
          case pos =>
            have := hc e
            subst e
            exact fin B o8 o9 hI this
          have inner : ∀ (k n : Nat) (F1 : Int64) (o9 : Option sn_V), S.2.2.1 - n = k → n ≤ S.2.2.1 → jI S (ib W) f F1 → (∀ v, ib F v = true → ib F1 v = true) → (F1 = F → jc S (ib W) F n) → G 23 [some (.inr (.inr (40, 0))), some (.inr (.inl W)), none, some (.inl (f : Int)), some (.inr (.inl F1)), none, some (.inr (.inl F)), none, some (.inl (n : Int)), o9] [] σ := by
            intro k
            induction k with
            | zero =>
              intro n F1 o9 hk hn hI1 hsub hc1
              have en : n = S.2.2.1 := by omega
              subst en
              refine hG 20 [23, 8] _ _ _ _ ?_
              refine And.intro i0 (And.intro (fun c => ?_) (fun _ => ?_))
              · have c : (S.2.2.1 : Int) < σ.1 47 0 0 := c
                omega
              · by_cases e1 : F1 = F
                · have hc2 := hc1 e1
                  subst e1
                  exact fin F1 _ _ hI1 hc2
                · have := jm_lt hP hI1 hsub e1
                  exact ih F1 F _ _ (by omega) hI1 (fun z => absurd z.symm e1)
            | succ k ihk =>
              intro n F1 o9 hk hn hI1 hsub hc1
              have hn' : n < S.2.2.1 := by omega
              have w := hok.2.2.1 n hn'
              have w4 := w.2.2.2.1
              have w6 := w.2.1
              have e5 : σ.1 54 0 n = S.1 5 n := hm.2.1 5 n (by omega) (by omega) hn'
              have e6 : σ.1 55 0 n = S.1 6 n := hm.2.1 6 n (by omega) (by omega) hn'
              have in4 : (0 : Int) ≤ (n : Int) ∧ (n : Int) < (400 : Nat) := by omega
              have l5 : σ.1 54 0 n < 64 := by rw [e5]; omega
              have l6 : σ.1 55 0 n < 64 := by rw [e6]; omega
              have skip : ∀ (o9 : Option sn_V), (∀ u v : Nat, 0 ≤ S.1 4 n → S.1 5 n = (u : Int) → S.1 6 n = (v : Int) → ib W u = true → ib W v = true → (ib F1 u = true ↔ ib F1 v = true)) → sn_R ((n : Int) + 1) ∧ G 23 [some (.inr (.inr (40, 0))), some (.inr (.inl W)), none, some (.inl (f : Int)), some (.inr (.inl F1)), none, some (.inr (.inl F)), none, some (.inl ((n : Int) + 1)), o9] [] σ := by
                intro o9 hh
                exact And.intro (by unfold sn_R; omega) (ihk (n + 1) F1 o9 (by omega) (by omega) hI1 hsub (jc_s hsub (fun _ z => z) hc1 hh))
              refine hG 90 [23, 8] _ _ _ _ ?_
              refine And.intro i0 (And.intro (fun _ => And.intro rfl (And.intro ⟨by omega, hmd⟩ ?_)) (fun c => ?_))
              case refine_2 =>
                have c : σ.1 47 0 0 ≤ (n : Int) := c
                omega
              by_cases hal : 0 ≤ S.1 4 n
              case neg =>
                show ((if md_e σ 0 (n : Int) then (1 : Int) else 0) = 0 → _) ∧ (¬ (if md_e σ 0 (n : Int) then (1 : Int) else 0) = 0 → _)
                rw [if_neg (fun z => hal ((mq_e hm hn').mp z))]
                refine And.intro (fun _ => And.intro (fun _ => skip _ (fun u v z => absurd z hal)) (fun z => absurd rfl z)) (fun z => absurd rfl z)
              show ((if md_e σ 0 (n : Int) then (1 : Int) else 0) = 0 → _) ∧ (¬ (if md_e σ 0 (n : Int) then (1 : Int) else 0) = 0 → _)
              rw [if_pos ((mq_e hm hn').mpr hal)]
              refine And.intro (fun z => absurd z (by decide)) (fun _ => And.intro in4 ?_)
              refine md_isIn l5 _ (fun u hu pu => And.intro (fun z => absurd z (by decide)) (fun _ => And.intro in4 ?_)) (fun nu => And.intro (fun _ => And.intro (fun _ => skip _ (fun u v _ z1 _ z2 _ => absurd z2 (nu u (e5.trans z1)))) (fun z => absurd rfl z)) (fun z => absurd rfl z))
              refine md_isIn l6 _ (fun v hv pv => And.intro (fun z => absurd z (by decide)) (fun _ => And.intro (fun z => absurd z (by decide)) (fun _ => And.intro in4 ?_))) (fun nv => And.intro (fun _ => And.intro (fun _ => skip _ (fun u v _ _ z1 _ z2 => absurd z2 (nv v (e6.trans z1)))) (fun z => absurd rfl z)) (fun z => absurd rfl z))
              have hu : σ.1 54 0 n = (u : Int) := hu
              have hv : σ.1 55 0 n = (v : Int) := hv
              have hcn : cn (pG S (ib W)) u v := eg_cn hok (e := (n : Int)) ⟨by omega, by omega, hal⟩ (e5.symm.trans hu) (e6.symm.trans hv) pv
              have upd : (ib F1 u = true ∨ ib F1 v = true) → ∀ o9 : Option sn_V, sn_R ((n : Int) + 1) ∧ G 23 [some (.inr (.inr (40, 0))), some (.inr (.inl W)), none, some (.inl (f : Int)), some (.inr (.inl (F1 ||| sn_shl 1 (σ.1 54 0 n) ||| sn_shl 1 (σ.1 55 0 n)))), none, some (.inr (.inl F)), none, some (.inl ((n : Int) + 1)), o9] [] σ := by
                intro hor o9
                obtain ⟨j1, j2, j3, j4⟩ := jI_s hP b1 hI1 pu pv hcn hor
                rw [hu, hv]
                refine And.intro (by unfold sn_R; omega) (ihk (n + 1) _ o9 (by omega) (by omega) j1 (fun w hw => j2 w (hsub w hw)) (jc_s hsub j2 hc1 (fun u' v' _ z1 z2 _ _ => ?_)))
                have : u' = u := by omega
                have : v' = v := by omega
                subst u' v'
                exact ⟨fun _ => j4, fun _ => j3⟩
              refine md_isIn l5 _ (fun u' hu' fu => And.intro (fun z => absurd z (by decide)) (fun _ => And.intro in4 (And.intro in4 (upd (Or.inl ?_) _)))) (fun nu => And.intro (fun _ => And.intro in4 ?_) (fun z => absurd rfl z))
              · have hu' : σ.1 54 0 n = (u' : Int) := hu'
                have : u' = u := by omega
                rw [← this]
                exact fu
              · refine md_isIn l6 _ (fun v' hv' fv => And.intro (fun z => absurd z (by decide)) (fun _ => And.intro in4 (And.intro in4 (upd (Or.inr ?_) _)))) (fun nv => And.intro (fun _ => skip _ (fun u' v' _ z1 z2 _ _ => ?_)) (fun z => absurd rfl z))
                · have hv' : σ.1 55 0 n = (v' : Int) := hv'
                  have : v' = v := by omega
                  rw [← this]
                  exact fv
                · exact ⟨fun z => absurd z (nu u' (e5.trans z1)), fun z => absurd z (nv v' (e6.trans z2))⟩
          refine hG 20 [23] _ _ _ _ ?_
          refine And.intro (fun c => absurd (cmp_0.mp c) e) (fun _ => ?_)
          exact inner S.2.2.1 0 F _ rfl (Nat.zero_le _) hI (fun _ z => z) (fun _ e u v he => absurd he (Nat.not_lt_zero e))
      have hf6 := (hP.1 f hf).1
      have key : ∀ v, v < 64 → (ib (sn_shl 1 (f : Int)) v = true ↔ v = f) := fun v hv => by rw [ib_bit (by omega) hv, decide_eq_true_eq]
      refine hG 20 [8] _ _ _ _ ?_
      refine outer _ _ 0 _ _ (Nat.lt_succ_self _) ⟨(key f (by omega)).mpr rfl, fun v hv => ?_⟩ (fun z => ?_)
      · have := (key v (ib_64 hv)).mp hv
        subst this
        exact ⟨hf, cn_rf _ _⟩
      · have z : (0 : Int64) = sn_shl 1 (f : Int) := z
        have := (key f (by omega)).mpr rfl
        rw [← z, ib_0] at this
        cases this
    · exact h.elim
