/-! What is reached from a link: its neighbours; the class's search. -/
def ngh (S : sT) (l : Nat) : List Int := if S.1 0 l = 0 then [S.1 6 (S.1 1 l).toNat, S.1 6 (S.1 2 l).toNat] else [S.1 5 (S.1 1 l).toNat, S.1 5 (S.1 2 l).toNat] ++ (if S.1 3 l = -1 then [] else [S.1 6 (S.1 3 l).toNat])
theorem ng_0 {S : sT} {l : Nat} (h : S.1 0 l = 0) {x : Int} : x ∈ ngh S l ↔ x = S.1 6 (S.1 1 l).toNat ∨ x = S.1 6 (S.1 2 l).toNat := by
  unfold ngh
  rw [if_pos h]
  simp
theorem ng_1 {S : sT} {l : Nat} (h : ¬ S.1 0 l = 0) {x : Int} : x ∈ ngh S l ↔ x = S.1 5 (S.1 1 l).toNat ∨ x = S.1 5 (S.1 2 l).toNat ∨ (¬ S.1 3 l = -1 ∧ x = S.1 6 (S.1 3 l).toNat) := by
  unfold ngh
  rw [if_neg h]
  by_cases z : S.1 3 l = -1
  · rw [if_pos z]
    simp [z]
  · rw [if_neg z]
    simp [z]
/-- an edge's user, where it has one -/
theorem s_us {T : fT} {S : sT} (h : s_ok T S) {e : Int} (he : s_al S e) : (S.1 6 e.toNat = -1 ∨ (0 ≤ S.1 6 e.toNat ∧ S.1 6 e.toNat < 60)) ∧ ∀ v : Nat, S.1 6 e.toNat = (v : Int) → v < S.2.1 ∧ 1 ≤ S.1 0 v ∧ (S.1 1 v = e ∨ S.1 2 v = e) := by
  have w := h.2.2.1 e.toNat (by have := he.1; have := he.2.1; omega)
  have b1 := h.1.1
  have w1 := w.2.1
  refine ⟨by omega, fun v hv => ?_⟩
  have w2 := (w.2.2.2.2 he.2.2).2.2.2.1 (by omega)
  rw [hv] at w2 w1
  have e0 := he.1
  refine ⟨by omega, w2.1, ?_⟩
  have : ((v : Int)).toNat = v := rfl
  rw [this] at w2
  rcases w2.2 with z | z
  · exact Or.inl (by omega)
  · exact Or.inr (by omega)
theorem s_k3 {T : fT} {S : sT} (h : s_ok T S) : ∀ l, l < S.2.1 → S.1 0 l ≤ 3 := fun l hl => (h.2.1 l hl).1.2
theorem ng_ok {T : fT} {S : sT} (h : s_ok T S) {P : Nat → Bool} (hP : upc S P) {l : Nat} (hl : P l = true) : ∀ x ∈ ngh S l, (x = -1 ∨ (0 ≤ x ∧ x < 60)) ∧ ∀ v : Nat, x = (v : Int) → P v = true → cn (pG S P) l v := by
  obtain ⟨l1, l2⟩ := hP.1 l hl
  have l3 := s_k3 h l l1
  have b1 := h.1.1
  have viaUser : ∀ e : Int, s_al S e → S.1 5 e.toNat = (l : Int) → (S.1 6 e.toNat = -1 ∨ (0 ≤ S.1 6 e.toNat ∧ S.1 6 e.toNat < 60)) ∧ ∀ v : Nat, S.1 6 e.toNat = (v : Int) → P v = true → cn (pG S P) l v := by
    intro e he hs
    obtain ⟨u1, u2⟩ := s_us h he
    refine ⟨u1, fun v hv hPv => ?_⟩
    obtain ⟨v1, v2, v3⟩ := u2 v hv
    have v4 := s_k3 h v v1
    rcases v3 with z | z
    · have : sl S v = l := by unfold sl; rw [z, hs]; rfl
      exact cn_in (q := (l, v)) (pG_in.mpr ⟨v, v1, ⟨v2, v4⟩, hPv, Or.inl (by rw [this])⟩)
    · have : sr S v = l := by unfold sr; rw [z, hs]; rfl
      exact cn_in (q := (l, v)) (pG_in.mpr ⟨v, v1, ⟨v2, v4⟩, hPv, Or.inr (by rw [this])⟩)
  intro x hx
  by_cases k : S.1 0 l = 0
  · obtain ⟨a1, a2, -, a4, a5, -⟩ := (h.2.1 l l1).2.1 k
    rcases (ng_0 k).mp hx with rfl | rfl
    · exact viaUser _ a1 a4
    · exact viaUser _ a2 a5
  · obtain ⟨⟨s1, s2⟩, s3, s4⟩ := s_src h l1 (show 1 ≤ S.1 0 l by omega)
    have s5 := (sA_in.mp s1).1
    have s6 := (sA_in.mp s3).1
    rcases (ng_1 k).mp hx with rfl | rfl | ⟨z, rfl⟩
    · refine ⟨by omega, fun v hv hPv => cn_sy ?_⟩
      have : sl S l = v := by unfold sl; rw [hv]; rfl
      exact cn_in (q := (v, l)) (pG_in.mpr ⟨l, l1, ⟨by omega, l3⟩, hl, Or.inl (by rw [this])⟩)
    · refine ⟨by omega, fun v hv hPv => cn_sy ?_⟩
      have : sr S l = v := by unfold sr; rw [hv]; rfl
      exact cn_in (q := (v, l)) (pG_in.mpr ⟨l, l1, ⟨by omega, l3⟩, hl, Or.inr (by rw [this])⟩)
    · have k12 : S.1 0 l = 1 ∨ S.1 0 l = 2 := by
        by_cases k3 : S.1 0 l = 3
        · exact absurd ((h.2.1 l l1).2.2.2.2 k3).1 z
        · omega
      obtain ⟨a1, a2, -⟩ := (h.2.1 l l1).2.2.2.1 k12
      exact viaUser _ a1 a2
theorem ng_all {T : fT} {S : sT} (h : s_ok T S) {P : Nat → Bool} (hP : upc S P) {e : Nat × Nat} (he : e ∈ pG S P) : (P e.1 = true ∧ P e.2 = true) ∧ ((e.2 : Int) ∈ ngh S e.1) ∧ ((e.1 : Int) ∈ ngh S e.2) := by
  obtain ⟨m, m1, m2, m3, m4⟩ := pG_in.mp he
  obtain ⟨p1, p2⟩ := hP.2 m m3 m2.1
  obtain ⟨a1, a2, -, a4, a5⟩ := (h.2.1 m m1).2.2.1 m2.1
  have side : ∀ (x : Int), s_al S x → S.1 6 x.toNat = (m : Int) → ((m : Int) ∈ ngh S (S.1 5 x.toNat).toNat) := by
    intro x hx hu
    have w := h.2.2.1 x.toNat (by have := hx.1; have := hx.2.1; omega)
    obtain ⟨w1, w2, w3, -⟩ := w.2.2.2.2 hx.2.2
    have xe : ((x.toNat : Nat) : Int) = x := by have := hx.1; omega
    rw [xe] at w2 w3
    by_cases k : S.1 0 (S.1 5 x.toNat).toNat = 0
    · refine (ng_0 k).mpr ?_
      rcases w2 k with z | z
      · exact Or.inl (by rw [z, hu])
      · exact Or.inr (by rw [z, hu])
    · have z := w3 (by omega)
      refine (ng_1 k).mpr (Or.inr (Or.inr ⟨by rw [z]; have := hx.1; omega, by rw [z, hu]⟩))
  have km : ¬ S.1 0 m = 0 := by omega
  obtain ⟨⟨-, s2⟩, -, s4⟩ := s_src h m1 m2.1
  rcases m4 with rfl | rfl
  · refine ⟨⟨p1, m3⟩, side _ a1 a4, (ng_1 km).mpr (Or.inl ?_)⟩
    show ((sl S m : Nat) : Int) = _
    unfold sl
    omega
  · refine ⟨⟨p2, m3⟩, side _ a2 a5, (ng_1 km).mpr (Or.inr (Or.inl ?_))⟩
    show ((sr S m : Nat) : Int) = _
    unfold sr
    omega
theorem nd_le {A : List Nat} : ∀ {L : List Nat}, L.Nodup → (∀ x ∈ L, x ∈ A) → L.length ≤ A.length := by
  intro L
  induction L generalizing A with
  | nil => intro _ _; exact Nat.zero_le _
  | cons x t ih =>
    intro h1 h2
    obtain ⟨n1, n2⟩ := List.nodup_cons.mp h1
    have hx := h2 x List.mem_cons_self
    have := ih (A := A.erase x) n2 (fun y hy => (List.mem_erase_of_ne (fun (z : y = x) => n1 (by rw [← z]; exact hy))).mpr (h2 y (List.mem_cons_of_mem _ hy)))
    rw [List.length_erase_of_mem hx] at this
    have := List.length_pos_of_mem hx
    simp only [List.length_cons]
    omega
/-- what holds while the search goes on: i links are done -/
def bI (S : sT) (P : Nat → Bool) (f : Nat) (L : List Nat) (i : Nat) : Prop := L.Nodup ∧ f ∈ L ∧ (∀ v ∈ L, P v = true ∧ cn (pG S P) f v) ∧ ∀ j l : Nat, j < i → L[j]? = some l → ∀ x ∈ ngh S l, ∀ v : Nat, x = (v : Int) → P v = true → v ∈ L
theorem bI_end {T : fT} {S : sT} (h : s_ok T S) {P : Nat → Bool} (hP : upc S P) {f : Nat} {L : List Nat} {i : Nat} (hb : bI S P f L i) (hi : L.length ≤ i) : ∀ v, v ∈ L ↔ P v = true ∧ cn (pG S P) f v := by
  intro v
  refine ⟨fun hv => hb.2.2.1 v hv, fun ⟨h1, h2⟩ => ?_⟩
  have cl : ∀ l ∈ L, ∀ x ∈ ngh S l, ∀ w : Nat, x = (w : Int) → P w = true → w ∈ L := by
    intro l hl
    obtain ⟨j, hj⟩ := List.getElem?_of_mem hl
    exact hb.2.2.2 j l (by have := (List.getElem?_eq_some_iff.mp hj).1; omega) hj
  have := cn_least (P := fun a b => (a ∈ L ↔ b ∈ L)) (fun _ => Iff.rfl) (fun _ _ h => h.symm) (fun _ _ _ h g => h.trans g) (fun e he => by
    obtain ⟨⟨p1, p2⟩, n1, n2⟩ := ng_all h hP he
    exact ⟨fun z => cl e.1 z _ n1 e.2 rfl p2, fun z => cl e.2 z _ n2 e.1 rfl p1⟩) h2
  exact this.mp hb.2.1
/-- one more neighbour is entered -/
theorem bI_in {T : fT} {S : sT} (h : s_ok T S) {P : Nat → Bool} (hP : upc S P) {f : Nat} {L L' : List Nat} {i l : Nat} (hb : bI S P f L i) (hl : L[i]? = some l) {x : Int} (hx : x ∈ ngh S l) (hL : L' = L ∨ ∃ v : Nat, x = (v : Int) ∧ P v = true ∧ v ∉ L ∧ L' = L ++ [v]) : bI S P f L' i ∧ L'[i]? = some l ∧ (∀ v ∈ L, v ∈ L') ∧ L'.length ≤ 24 := by
  have cap : ∀ L' : List Nat, L'.Nodup → (∀ v ∈ L', P v = true) → L'.length ≤ 24 := by
    intro L' h1 h2
    have := nd_le h1 (A := sA S) (fun v hv => sA_in.mpr (hP.1 v (h2 v hv)))
    have := sA_len S
    have := h.2.2.2.2.1
    omega
  rcases hL with rfl | ⟨v, hv, hPv, hn, rfl⟩
  · exact ⟨hb, hl, fun _ h => h, cap L' hb.1 (fun v hv => (hb.2.2.1 v hv).1)⟩
  · have hi := (List.getElem?_eq_some_iff.mp hl).1
    have lin : l ∈ L := List.mem_of_getElem? hl
    have nd : (L ++ [v]).Nodup := List.nodup_append.mpr ⟨hb.1, List.nodup_cons.mpr ⟨List.not_mem_nil, List.nodup_nil⟩, fun a ha b hb' => by
      rw [List.mem_singleton.mp hb']
      exact fun z => hn (z ▸ ha)⟩
    have mem : ∀ w ∈ L ++ [v], P w = true ∧ cn (pG S P) f w := by
      intro w hw
      rcases List.mem_append.mp hw with hw | hw
      · exact hb.2.2.1 w hw
      · rw [List.mem_singleton.mp hw]
        exact ⟨hPv, cn_tr (hb.2.2.1 l lin).2 ((ng_ok h hP (hb.2.2.1 l lin).1 x hx).2 v hv hPv)⟩
    refine ⟨⟨nd, List.mem_append_left _ hb.2.1, mem, fun j m hj hm => ?_⟩, ?_, fun w hw => List.mem_append_left _ hw, cap _ nd (fun w hw => (mem w hw).1)⟩
    · rw [List.getElem?_append_left (by omega)] at hm
      exact fun y hy w hw hPw => List.mem_append_left _ (hb.2.2.2 j m hj hm y hy w hw hPw)
    · rw [List.getElem?_append_left hi]
      exact hl
theorem bI_24 {T : fT} {S : sT} (h : s_ok T S) {P : Nat → Bool} (hP : upc S P) {f : Nat} {L : List Nat} {i : Nat} (hb : bI S P f L i) {v : Nat} (hv : P v = true) (hn : v ∉ L) : L.length < 24 := by
  have nd : (v :: L).Nodup := List.nodup_cons.mpr ⟨hn, hb.1⟩
  have := nd_le nd (A := sA S) (fun w hw => by
    rcases List.mem_cons.mp hw with rfl | hw
    · exact sA_in.mpr (hP.1 w hv)
    · exact sA_in.mpr (hP.1 w (hb.2.2.1 w hw).1))
  have := sA_len S
  have := h.2.2.2.2.1
  simp only [List.length_cons] at *
  omega
theorem bI_s {S : sT} {P : Nat → Bool} {f : Nat} {L : List Nat} {i l : Nat} (hb : bI S P f L i) (hl : L[i]? = some l) (h : ∀ x ∈ ngh S l, ∀ v : Nat, x = (v : Int) → P v = true → v ∈ L) : bI S P f L (i + 1) := by
  refine ⟨hb.1, hb.2.1, hb.2.2.1, fun j m hj hm => ?_⟩
  by_cases z : j = i
  · subst z
    rw [hl] at hm
    cases hm
    exact h
  · exact hb.2.2.2 j m (by omega) hm
theorem ib_64 {m : Int64} {l : Nat} (h : ib m l = true) : l < 64 := by
  unfold ib at h
  exact Classical.byContradiction (fun z => by rw [BitVec.getLsbD_of_ge _ _ (by omega)] at h; cases h)
def sp_PR_reach : sn_P := fun vs σ po => match vs with
  | [.inr (.inr q), .inr (.inr t), .inl x, .inr (.inl W)] => q = (25, 0) ∧ t.1 = 9 ∧ ∃ (T : fT) (S : sT) (f : Nat), sx_v (s_X S) t.2 σ ∧ s_ok T S ∧ upc S (ib W) ∧ x = (f : Int) ∧ ib W f = true ∧ ∀ (R : Int64) (σ' : sn_M), (∀ v, ib R v = true ↔ (ib W v = true ∧ cn (pG S (ib W)) f v)) → pr_f σ σ' → po (some (.inr (.inl R))) σ'
  | _ => False
def ca_PR_reach : List (Nat × Nat × Nat × sn_P) := [(85, 3, 4, sp_PR_enter)]
theorem co_PR_reach : ∀ x n ci s', sn_lk ca_PR_reach x = some (n, ci, s') → sn_CO "SwitchedNets$Proof" sn_ws 2 x n ci s' := sn_co_of (List.forall_mem_cons.mpr ⟨sn_CO_V ("SwitchedNets$Proof", T_PR, 5) ct_PR_enter (by decide) (by decide) (sn_gV ml_PR_85 mi_PR_enter ms_PR_enter mz_PR mc_PR_enter) (by decide) rfl rfl ⟨nh_PR.1, nh_PR.2, pn_PR_enter⟩, fun _ h => absurd h List.not_mem_nil⟩)
set_option maxHeartbeats 4000000 in
theorem ct_PR_reach : sn_CT y_PR_reach ws_PR_reach 2 sp_PR_reach := by
  refine sn_CT_of (pr := pr_PR_reach) (fi := (sn_lk ft_PR)) (lc := (sn_lk lc_PR)) (ca := sn_lk ca_PR_reach) pl_PR ?_ pk_PR_reach FI_PR LC_PR co_PR_reach ?_
  · intro vs σ post h
    unfold sp_PR_reach at h
    split at h
    · exact Nat.le_of_ble_eq_true rfl
    · exact h.elim
  · intro vs σ post h hvs hR
    unfold sp_PR_reach at h
    split at h
    · next q t x W =>
      obtain ⟨a, b⟩ := t
      obtain ⟨rfl, ha, T, S, f, hx, hok, hP, rfl, hf, hpo⟩ := h
      have ha : a = 9 := ha
      subst ha
      intro G hG
      have hx : sx_v (s_X S) b σ := hx
      have b1 := hok.1.1
      have b2 := hok.1.2.1
      have sxk : ∀ σ1, pr_f σ σ1 → sx_v (s_X S) b σ1 := fun σ1 fr => ⟨fun a ha => by rw [← hx.1 a ha]; funext c; exact fr.1 _ _ _ (by omega) (by omega), fun j h1 h2 => by rw [← hx.2 j h1 h2]; exact fr.1 _ _ _ (by omega) (by omega)⟩
      have ent : ∀ (L : List Nat) (i l : Nat), bI S (ib W) f L i → L[i]? = some l → ∀ (x : Int), x ∈ ngh S l → (x = -1 ∨ (0 ≤ x ∧ x < 60)) ∧ ∀ v : Nat, x = (v : Int) → ib W v = true → v ∉ L → L.length < 24 := fun L i l hb hl x hx => ⟨(ng_ok hok hP (hb.2.2.1 l (List.mem_of_getElem? hl)).1 x hx).1, fun v _ hw hn => bI_24 hok hP hb hw hn⟩
      have fin : ∀ (L : List Nat) (i : Nat) (σ1 : sn_M), bI S (ib W) f L i → L.length ≤ i → bq σ1 L → pr_f σ σ1 → post (some (.inr (.inl (σ1.2 25 0 4)))) σ1 := fun L i σ1 hb hi hq hfr => hpo _ σ1 (fun v => by
        by_cases hv : v < 64
        · exact (hq.2.2 v hv).trans (bI_end hok hP hb hi v)
        · exact ⟨fun z => absurd (ib_64 z) hv, fun z => absurd (ib_64 z.1) hv⟩) hfr
      have loop : ∀ (d : Nat) (L : List Nat) (i : Nat) (σ1 : sn_M) (o6 : Option sn_V), 24 - i = d → bI S (ib W) f L i → L.length ≤ 24 → i ≤ L.length → bq σ1 L → pr_f σ σ1 → G 19 [some (.inr (.inr (25, 0))), some (.inr (.inr (9, b))), some (.inl (f : Int)), some (.inr (.inl W)), none, some (.inl (i : Int)), o6] [] σ1 := by
        intro d
        induction d with
        | zero =>
          intro L i σ1 o6 hd hb h24 hi hq hfr
          have e3 : σ1.1 25 0 3 = (L.length : Int) := hq.2.1
          refine hG 90 [19] _ _ _ _ ?_
          refine And.intro (fun c => ?_) (fun _ => ?_)
          · have c : (i : Int) < σ1.1 25 0 3 := c
            omega
          · exact fin L i σ1 hb (by omega) hq hfr
        | succ d ih =>
          intro L i σ1 o6 hd hb h24 hi hq hfr
          have e3 : σ1.1 25 0 3 = (L.length : Int) := hq.2.1
          by_cases hlt : i < L.length
          case neg =>
            refine hG 90 [19] _ _ _ _ ?_
            refine And.intro (fun c => ?_) (fun _ => ?_)
            · have c : (i : Int) < σ1.1 25 0 3 := c
              omega
            · exact fin L i σ1 hb (by omega) hq hfr
          obtain ⟨l, hl⟩ : ∃ l, L[i]? = some l := ⟨L[i], List.getElem?_eq_getElem hlt⟩
          have lin : l ∈ L := List.mem_of_getElem? hl
          obtain ⟨l1, l2⟩ := hP.1 l (hb.2.2.1 l lin).1
          have l3 := s_k3 hok l l1
          have el : σ1.1 28 0 ((i : Int)).toNat = (l : Int) := hq.1 i l hl
          have il : (0 : Int) ≤ (l : Int) ∧ (l : Int) < (60 : Nat) := by omega
          have eb : ∀ {x : Int}, s_al S x → 0 ≤ x ∧ x < (100 : Nat) := fun hx => by have := hx.1; have := hx.2.1; omega
          -- the end of the turn
          have turn : ∀ (L' : List Nat) (σ' : sn_M), bI S (ib W) f L' i → L'[i]? = some l → L'.length ≤ 24 → (∀ x ∈ ngh S l, ∀ v : Nat, x = (v : Int) → ib W v = true → v ∈ L') → bq σ' L' → pr_f σ σ' → sn_R ((i : Int) + 1) ∧ G 19 [some (.inr (.inr (25, 0))), some (.inr (.inr (9, b))), some (.inl (f : Int)), some (.inr (.inl W)), none, some (.inl ((i : Int) + 1)), some (.inl (l : Int))] [] σ' := by
            intro L' σ' b' l' c' n' q' f'
            refine And.intro (by unfold sn_R; omega) ?_
            have := (List.getElem?_eq_some_iff.mp l').1
            exact ih L' (i + 1) σ' _ (by omega) (bI_s b' l' n') c' (by omega) q' f'
          have at44 : G 44 [some (.inr (.inr (25, 0))), some (.inr (.inr (9, b))), some (.inl (f : Int)), some (.inr (.inl W)), none, some (.inl (i : Int)), some (.inl (l : Int))] [] σ1 := by
            have hx1 := sxk σ1 hfr
            have r0 : σ1.1 10 b = S.1 0 := hx1.1 0 (by omega)
            have r1 : σ1.1 11 b = S.1 1 := hx1.1 1 (by omega)
            have r5 : σ1.1 15 b = S.1 5 := hx1.1 5 (by omega)
            have r6 : σ1.1 16 b = S.1 6 := hx1.1 6 (by omega)
            by_cases k : S.1 0 l = 0
            · obtain ⟨a1, a2, -⟩ := (hok.2.1 l l1).2.1 k
              have n1 : S.1 6 (S.1 1 l).toNat ∈ ngh S l := (ng_0 k).mpr (Or.inl rfl)
              have n2 : S.1 6 (S.1 2 l).toNat ∈ ngh S l := (ng_0 k).mpr (Or.inr rfl)
              have x1 : σ1.1 16 b (σ1.1 11 b l).toNat = S.1 6 (S.1 1 l).toNat := by rw [r6, r1]
              have p1 := ent L i l hb hl _ n1
              rw [← x1] at p1
              refine hG 60 [19] _ _ _ _ ?_
              refine And.intro il (And.intro (fun _ => ?_) (fun c => absurd (show σ1.1 10 b l = 0 by rw [r0]; exact k) c))
              refine And.intro il (And.intro (show 0 ≤ σ1.1 11 b l ∧ σ1.1 11 b l < (100 : Nat) by rw [r1]; exact eb a1) (And.intro rfl ⟨L, hq, p1.1, p1.2, fun L1 σ2 q1 d1 m1 f1 => ?_⟩))
              have d1 : L1 = L ∨ ∃ v : Nat, S.1 6 (S.1 1 l).toNat = (v : Int) ∧ ib W v = true ∧ v ∉ L ∧ L1 = L ++ [v] := by rw [← x1]; exact d1
              have m1 : ∀ v : Nat, S.1 6 (S.1 1 l).toNat = (v : Int) → ib W v = true → v ∈ L1 := by rw [← x1]; exact m1
              obtain ⟨b1', l1', s1', c1'⟩ := bI_in hok hP hb hl n1 d1
              have f12 := pr_f_t hfr f1
              have hx2 := sxk σ2 f12
              have r2' : σ2.1 12 b = S.1 2 := hx2.1 2 (by omega)
              have r6' : σ2.1 16 b = S.1 6 := hx2.1 6 (by omega)
              have x2 : σ2.1 16 b (σ2.1 12 b l).toNat = S.1 6 (S.1 2 l).toNat := by rw [r6', r2']
              have p2 := ent L1 i l b1' l1' _ n2
              rw [← x2] at p2
              refine And.intro il (And.intro (show 0 ≤ σ2.1 12 b l ∧ σ2.1 12 b l < (100 : Nat) by rw [r2']; exact eb a2) (And.intro rfl ⟨L1, q1, p2.1, p2.2, fun L2 σ3 q2 d2 m2 f2 => ?_⟩))
              have d2 : L2 = L1 ∨ ∃ v : Nat, S.1 6 (S.1 2 l).toNat = (v : Int) ∧ ib W v = true ∧ v ∉ L1 ∧ L2 = L1 ++ [v] := by rw [← x2]; exact d2
              have m2 : ∀ v : Nat, S.1 6 (S.1 2 l).toNat = (v : Int) → ib W v = true → v ∈ L2 := by rw [← x2]; exact m2
              obtain ⟨b2', l2', s2', c2'⟩ := bI_in hok hP b1' l1' n2 d2
              exact turn L2 σ3 b2' l2' c2' (fun x hx v hv hw => by
                rcases (ng_0 k).mp hx with rfl | rfl
                · exact s2' v (m1 v hv hw)
                · exact m2 v hv hw) q2 (pr_f_t f12 f2)
            · obtain ⟨a1, a2, -⟩ := (hok.2.1 l l1).2.2.1 (by omega)
              have n1 : S.1 5 (S.1 1 l).toNat ∈ ngh S l := (ng_1 k).mpr (Or.inl rfl)
              have n2 : S.1 5 (S.1 2 l).toNat ∈ ngh S l := (ng_1 k).mpr (Or.inr (Or.inl rfl))
              have x1 : σ1.1 15 b (σ1.1 11 b l).toNat = S.1 5 (S.1 1 l).toNat := by rw [r5, r1]
              have p1 := ent L i l hb hl _ n1
              rw [← x1] at p1
              refine hG 60 [19] _ _ _ _ ?_
              refine And.intro il (And.intro (fun c => absurd c (show ¬ σ1.1 10 b l = 0 by rw [r0]; exact k)) (fun _ => ?_))
              refine And.intro il (And.intro (show 0 ≤ σ1.1 11 b l ∧ σ1.1 11 b l < (100 : Nat) by rw [r1]; exact eb a1) (And.intro rfl ⟨L, hq, p1.1, p1.2, fun L1 σ2 q1 d1 m1 f1 => ?_⟩))
              have d1 : L1 = L ∨ ∃ v : Nat, S.1 5 (S.1 1 l).toNat = (v : Int) ∧ ib W v = true ∧ v ∉ L ∧ L1 = L ++ [v] := by rw [← x1]; exact d1
              have m1 : ∀ v : Nat, S.1 5 (S.1 1 l).toNat = (v : Int) → ib W v = true → v ∈ L1 := by rw [← x1]; exact m1
              obtain ⟨b1', l1', s1', c1'⟩ := bI_in hok hP hb hl n1 d1
              have f12 := pr_f_t hfr f1
              have hx2 := sxk σ2 f12
              have r2' : σ2.1 12 b = S.1 2 := hx2.1 2 (by omega)
              have r5' : σ2.1 15 b = S.1 5 := hx2.1 5 (by omega)
              have x2 : σ2.1 15 b (σ2.1 12 b l).toNat = S.1 5 (S.1 2 l).toNat := by rw [r5', r2']
              have p2 := ent L1 i l b1' l1' _ n2
              rw [← x2] at p2
              refine And.intro il (And.intro (show 0 ≤ σ2.1 12 b l ∧ σ2.1 12 b l < (100 : Nat) by rw [r2']; exact eb a2) (And.intro rfl ⟨L1, q1, p2.1, p2.2, fun L2 σ3 q2 d2 m2 f2 => ?_⟩))
              have d2 : L2 = L1 ∨ ∃ v : Nat, S.1 5 (S.1 2 l).toNat = (v : Int) ∧ ib W v = true ∧ v ∉ L1 ∧ L2 = L1 ++ [v] := by rw [← x2]; exact d2
              have m2 : ∀ v : Nat, S.1 5 (S.1 2 l).toNat = (v : Int) → ib W v = true → v ∈ L2 := by rw [← x2]; exact m2
              obtain ⟨b2', l2', s2', c2'⟩ := bI_in hok hP b1' l1' n2 d2
              have f13 := pr_f_t f12 f2
              have hx3 := sxk σ3 f13
              have r3' : σ3.1 13 b = S.1 3 := hx3.1 3 (by omega)
              have r6' : σ3.1 16 b = S.1 6 := hx3.1 6 (by omega)
              refine And.intro il (And.intro (fun c => ?_) (fun c => ?_))
              · have c : σ3.1 13 b l = -1 := c
                rw [r3'] at c
                exact turn L2 σ3 b2' l2' c2' (fun x hx v hv hw => by
                  rcases (ng_1 k).mp hx with rfl | rfl | ⟨z, -⟩
                  · exact s2' v (m1 v hv hw)
                  · exact m2 v hv hw
                  · exact absurd c z) q2 f13
              · have c : ¬ σ3.1 13 b l = -1 := c
                rw [r3'] at c
                have n3 : S.1 6 (S.1 3 l).toNat ∈ ngh S l := (ng_1 k).mpr (Or.inr (Or.inr ⟨c, rfl⟩))
                have k12 : S.1 0 l = 1 ∨ S.1 0 l = 2 := by
                  by_cases k3 : S.1 0 l = 3
                  · exact absurd ((hok.2.1 l l1).2.2.2.2 k3).1 c
                  · omega
                obtain ⟨a3, -⟩ := (hok.2.1 l l1).2.2.2.1 k12
                have x3 : σ3.1 16 b (σ3.1 13 b l).toNat = S.1 6 (S.1 3 l).toNat := by rw [r6', r3']
                have p3 := ent L2 i l b2' l2' _ n3
                rw [← x3] at p3
                refine And.intro il (And.intro (show 0 ≤ σ3.1 13 b l ∧ σ3.1 13 b l < (100 : Nat) by rw [r3']; exact eb a3) (And.intro rfl ⟨L2, q2, p3.1, p3.2, fun L3 σ4 q3 d3 m3 f3 => ?_⟩))
                have d3 : L3 = L2 ∨ ∃ v : Nat, S.1 6 (S.1 3 l).toNat = (v : Int) ∧ ib W v = true ∧ v ∉ L2 ∧ L3 = L2 ++ [v] := by rw [← x3]; exact d3
                have m3 : ∀ v : Nat, S.1 6 (S.1 3 l).toNat = (v : Int) → ib W v = true → v ∈ L3 := by rw [← x3]; exact m3
                obtain ⟨b3', l3', s3', c3'⟩ := bI_in hok hP b2' l2' n3 d3
                exact turn L3 σ4 b3' l3' c3' (fun x hx v hv hw => by
                  rcases (ng_1 k).mp hx with rfl | rfl | ⟨-, rfl⟩
                  · exact s3' v (s2' v (m1 v hv hw))
                  · exact s3' v (m2 v hv hw)
                  · exact m3 v hv hw) q3 (pr_f_t f13 f3)
          refine hG 30 [44] _ _ _ _ ?_
          refine And.intro (fun _ => And.intro (fun _ => And.intro (show (0 : Int) ≤ (i : Int) ∧ (i : Int) < (24 : Nat) by omega) ?_) (fun c => ?_)) (fun c => ?_)
          · rw [← el] at at44
            exact at44
          · have c : (24 : Int) ≤ (i : Int) := c
            omega
          · have c : σ1.1 25 0 3 ≤ (i : Int) := c
            omega
      refine hG 40 [19] _ _ _ _ ?_
      have q0 : bq (sn_u σ.1 25 0 3 0, sn_u σ.2 25 0 4 0) [] := ⟨fun j v h => by simp at h, rfl, fun v hv => by
        show ib (sn_u σ.2 25 0 4 0 25 0 4) v = true ↔ _
        rw [sn_u_s, ib_0]
        simp⟩
      have f0 : pr_f σ (sn_u σ.1 25 0 3 0, sn_u σ.2 25 0 4 0) := ⟨fun a b c z1 z2 => sn_u_n (fun y => z2 ⟨y.1, y.2.2⟩), fun a b c z => sn_u_n (fun y => z ⟨y.1, y.2.2⟩)⟩
      have hf60 := (hP.1 f hf).1
      refine And.intro rfl ⟨[], q0, Or.inr ⟨by omega, by omega⟩, fun v _ _ _ => by decide, fun L1 σ2 q1 d1 m1 f1 => ?_⟩
      have hin := m1 f rfl hf
      have e1 : L1 = [f] := by
        rcases d1 with rfl | ⟨v, hv, -, -, rfl⟩
        · cases hin
        · have : v = f := by omega
          rw [this]
          rfl
      subst e1
      exact loop 24 [f] 0 σ2 _ rfl ⟨List.nodup_cons.mpr ⟨List.not_mem_nil, List.nodup_nil⟩, List.mem_cons_self, fun v hv => by rw [List.mem_singleton.mp hv]; exact ⟨hf, cn_rf _ _⟩, fun j l hj => absurd hj (Nat.not_lt_zero j)⟩ (by show 1 ≤ 24; omega) (Nat.zero_le _) q1 (pr_f_t f0 f1)
    · exact h.elim
