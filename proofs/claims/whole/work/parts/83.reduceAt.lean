/-! The reference's reduceAt. -/
theorem ca_ext {f g : Nat → Int} {n : Nat} {c x : Int} (h : ∀ l, l < n → f l = g l) (hx : ca_is f n c x) : ca_is g n c x := by
  rcases hx with ⟨l, hl, rfl, hk, hc⟩ | ⟨rfl, hc⟩
  · exact Or.inl ⟨l, hl, rfl, by rw [← h l hl]; exact hk, by rw [← cn_ct_ext 3 l (fun j hj => h j (by omega))]; exact hc⟩
  · exact Or.inr ⟨rfl, by rw [← cn_ct_ext 3 n (fun j hj => h j (by omega))]; exact hc⟩
theorem up4_6 (p : Nat → Int) (a b c d : Nat) (x y : Int) : sn_up (sn_up (sn_up (sn_up (sn_up (sn_up (sn_up (sn_up p a (-1)) b (-1)) c (-1)) d (-1)) a x) b x) c y) d y = sn_up (sn_up (sn_up (sn_up p a x) b x) c y) d y := by
  funext t
  unfold sn_up
  by_cases h1 : t = d
  · rw [if_pos h1, if_pos h1]
  · by_cases h2 : t = c
    · rw [if_neg h1, if_pos h2, if_neg h1, if_pos h2]
    · by_cases h3 : t = b
      · rw [if_neg h1, if_neg h2, if_pos h3, if_neg h1, if_neg h2, if_pos h3]
      · by_cases h4 : t = a
        · rw [if_neg h1, if_neg h2, if_neg h3, if_pos h4, if_neg h1, if_neg h2, if_neg h3, if_pos h4]
        · rw [if_neg h1, if_neg h2, if_neg h3, if_neg h4, if_neg h1, if_neg h2, if_neg h3, if_neg h4, if_neg h1, if_neg h2, if_neg h3, if_neg h4]
theorem up3_0 (p : Nat → Int) (a b c : Nat) : sn_up (sn_up (sn_up p a (-1)) b (-1)) c (-1) = sn_up (sn_up (sn_up p c (-1)) a (-1)) b (-1) := by
  funext t
  unfold sn_up
  by_cases h1 : t = a
  · by_cases h2 : t = b
    · by_cases h3 : t = c
      · rw [if_pos h3, if_pos h2]
      · rw [if_neg h3, if_pos h2, if_pos h2]
    · by_cases h3 : t = c
      · rw [if_pos h3, if_neg h2, if_pos h1]
      · rw [if_neg h3, if_neg h2, if_pos h1, if_neg h2, if_pos h1]
  · by_cases h2 : t = b
    · by_cases h3 : t = c
      · rw [if_pos h3, if_pos h2]
      · rw [if_neg h3, if_pos h2, if_pos h2]
    · by_cases h3 : t = c
      · rw [if_pos h3, if_neg h2, if_neg h1, if_pos h3]
      · rw [if_neg h3, if_neg h2, if_neg h1, if_neg h2, if_neg h1, if_neg h3]
/-- what is gone at an axiom -/
theorem s_go_f {T : fT} {S : sT} (h : s_ok T S) {c : Nat} (hc : c < S.2.1) (hk : S.1 0 c = 3) {of other : Int} (hoo : (of = S.1 1 c ∧ other = S.1 2 c) ∨ (of = S.1 2 c ∧ other = S.1 1 c)) {a : Nat} (ha : S.1 5 of.toNat = (a : Int)) (h0 : S.1 0 a = 0) :
    (s_al S (s_go S a of)) ∧ (s_go S a of = other ↔ S.1 5 of.toNat = S.1 5 other.toNat) := by
  obtain ⟨b0, hl, he, -⟩ := h
  obtain ⟨c1, c2, c3, -⟩ := (hl c hc).2.2.1 (by omega)
  have hof : s_al S of ∧ s_al S other ∧ of ≠ other := by
    rcases hoo with ⟨rfl, rfl⟩ | ⟨rfl, rfl⟩
    · exact ⟨c1, c2, c3⟩
    · exact ⟨c2, c1, fun z => c3 z.symm⟩
  obtain ⟨⟨o1, o2, o3⟩, ⟨p1, p2, p3⟩, hne⟩ := hof
  have ea := (he of.toNat (by omega)).2.2.2.1
  obtain ⟨a1, a2, a3, a4, a5, -⟩ := (hl a (by omega)).2.1 h0
  have eo := (he of.toNat (by omega)).2.2.2.2 o3
  rw [ha] at eo
  have eo2 := eo.2.1 (by rw [show ((a : Int)).toNat = a from rfl]; exact h0)
  rw [show ((a : Int)).toNat = a from rfl] at eo2
  have eot : ((of.toNat : Nat) : Int) = of := by omega
  rw [eot] at eo2
  unfold s_go
  by_cases z : S.1 1 a = of
  · rw [if_pos z]
    refine ⟨a2, fun w => ?_, fun w => ?_⟩
    · rw [ha, ← w, a5]
    · have q := (he other.toNat (by omega)).2.2.2.2 p3
      rw [← w, ha, show ((a : Int)).toNat = a from rfl] at q
      have q2 := q.2.1 h0
      have ep : ((other.toNat : Nat) : Int) = other := by omega
      rw [ep] at q2
      rcases q2 with q2 | q2
      · exact absurd (z.symm.trans q2) hne
      · exact q2
  · rw [if_neg z]
    refine ⟨a1, fun w => ?_, fun w => ?_⟩
    · rw [ha, ← w, a4]
    · have q := (he other.toNat (by omega)).2.2.2.2 p3
      rw [← w, ha, show ((a : Int)).toNat = a from rfl] at q
      have q2 := q.2.1 h0
      have ep : ((other.toNat : Nat) : Int) = other := by omega
      rw [ep] at q2
      have z2 : S.1 2 a = of := eo2.resolve_left z
      rcases q2 with q2 | q2
      · exact q2
      · exact absurd (z2.symm.trans q2) hne
def sp_MD_reduceAt : sn_P := fun vs σ po => match vs with
  | [.inr (.inr q), .inl c] => q = (40, 0) ∧ ∃ (T : fT) (S : sT), my_v S 0 σ ∧ s_ok T S ∧ ∀ x, ca_is (S.1 0) S.2.1 c x → (x < 0 → po (some (.inl 0)) σ) ∧ (0 ≤ x → (s_rd S x.toNat = none → po (some (.inl 0)) σ) ∧ ∀ S', s_rd S x.toNat = some S' → ∀ σ', my_v S' 0 σ' → sn_fr (cp_P 0) σ σ' → po (some (.inl 1)) σ')
  | _ => False
def ca_MD_reduceAt : List (Nat × Nat × Nat × sn_P) := [(112, 5, 8, sp_MD_addLink), (169, 2, 8, sp_MD_drop), (172, 2, 8, sp_MD_dropEdge), (175, 2, 8, sp_MD_cutAt), (178, 4, 8, sp_MD_slide)]
theorem co_MD_reduceAt : ∀ x n ci s', sn_lk ca_MD_reduceAt x = some (n, ci, s') → sn_CO "SwitchedNetsModel" sn_ws 2 x n ci s' := sn_co_of (List.forall_mem_cons.mpr ⟨sn_CO_V ("SwitchedNetsModel", T_MD, 29) ct_MD_addLink (by decide) (by decide) (sn_gV ml_MD_112 mi_MD_addLink ms_MD_addLink mz_MD mc_MD_addLink) (by decide) rfl rfl ⟨nh_MD.1, nh_MD.2, pn_MD_addLink⟩, List.forall_mem_cons.mpr ⟨sn_CO_V ("SwitchedNetsModel", T_MD, 29) ct_MD_drop (by decide) (by decide) (sn_gV ml_MD_169 mi_MD_drop ms_MD_drop mz_MD mc_MD_drop) (by decide) rfl rfl ⟨nh_MD.1, nh_MD.2, pn_MD_drop⟩, List.forall_mem_cons.mpr ⟨sn_CO_V ("SwitchedNetsModel", T_MD, 29) ct_MD_dropEdge (by decide) (by decide) (sn_gV ml_MD_172 mi_MD_dropEdge ms_MD_dropEdge mz_MD mc_MD_dropEdge) (by decide) rfl rfl ⟨nh_MD.1, nh_MD.2, pn_MD_dropEdge⟩, List.forall_mem_cons.mpr ⟨sn_CO_V ("SwitchedNetsModel", T_MD, 29) ct_MD_cutAt (by decide) (by decide) (sn_gV ml_MD_175 mi_MD_cutAt ms_MD_cutAt mz_MD mc_MD_cutAt) (by decide) rfl rfl ⟨nh_MD.1, nh_MD.2, pn_MD_cutAt⟩, List.forall_mem_cons.mpr ⟨sn_CO_V ("SwitchedNetsModel", T_MD, 29) ct_MD_slide (by decide) (by decide) (sn_gV ml_MD_178 mi_MD_slide ms_MD_slide mz_MD mc_MD_slide) (by decide) rfl rfl ⟨nh_MD.1, nh_MD.2, pn_MD_slide⟩, fun _ h => absurd h List.not_mem_nil⟩⟩⟩⟩⟩)
set_option maxHeartbeats 1000000 in
theorem rd_44 {T : fT} {S : sT} {σ : sn_M} {post : Option sn_V → sn_M → Prop} (hv : my_v S 0 σ) (hok : s_ok T S) {l : Nat} (hl : l < S.2.1) (hk : S.1 0 l = 3) (h3 : s_rd S l = none → post (some (.inl 0)) σ) (h4 : ∀ S', s_rd S l = some S' → ∀ σ', my_v S' 0 σ' → sn_fr (cp_P 0) σ σ' → post (some (.inl 1)) σ')
    (G : Nat → sn_Ls → List sn_V → sn_M → Prop) (hG : ∀ (n : Nat) (st : List Nat) (pc : Nat) (L : sn_Ls) (S : List sn_V) (σ : sn_M), sn_it pr_MD_reduceAt (sn_lk ft_MD) (sn_lk lc_MD) (sn_lk ca_MD_reduceAt) post st G n pc L S σ → G pc L S σ) (c : Int) :
    G 44 [some (.inr (.inr (40, 0))), some (.inl c), some (.inl (l : Int)), some (.inl (S.1 1 l)), some (.inl (S.1 2 l)), some (.inl (S.1 5 (S.1 1 l).toNat)), some (.inl (S.1 5 (S.1 2 l).toNat))] [] σ := by
  have b1 := hok.1.1
  have b2 := hok.1.2.1
  have b3 := hok.1.2.2
  have e46 : σ.1 46 0 0 = (S.2.1 : Int) := hv.2.2.1
  obtain ⟨⟨al, ar⟩, s1, s2⟩ := s_rd_src hok hl hk
  have hlr := ((hok.2.1 l hl).2.2.1 (by omega)).2.2.1
  obtain ⟨al1, al2, al3⟩ := al
  obtain ⟨ar1, ar2, ar3⟩ := ar
  have q1 := (hok.2.2.1 (S.1 1 l).toNat (by omega)).2.2.2.2 al3
  have q2 := (hok.2.2.1 (S.1 2 l).toNat (by omega)).2.2.2.2 ar3
  have sgo1 := fun a ha h0 => s_go_f hok hl hk (of := S.1 1 l) (other := S.1 2 l) (Or.inl ⟨rfl, rfl⟩) (a := a) ha h0
  have sgo2 := fun a ha h0 => s_go_f hok hl hk (of := S.1 2 l) (other := S.1 1 l) (Or.inr ⟨rfl, rfl⟩) (a := a) ha h0
  have rd : s_rd S l = (if S.1 5 (S.1 1 l).toNat = S.1 5 (S.1 2 l).toNat then none else if S.1 0 (S.1 5 (S.1 1 l).toNat).toNat = 0 then some (s_sl S l (S.1 5 (S.1 1 l).toNat).toNat (S.1 1 l) (S.1 2 l) (s_go S (S.1 5 (S.1 1 l).toNat).toNat (S.1 1 l))) else if S.1 0 (S.1 5 (S.1 2 l).toNat).toNat = 0 then some (s_sl S l (S.1 5 (S.1 2 l).toNat).toNat (S.1 2 l) (S.1 1 l) (s_go S (S.1 5 (S.1 2 l).toNat).toNat (S.1 2 l))) else if 60 < S.2.1 + 2 then none else some (s_sp S l (S.1 5 (S.1 1 l).toNat).toNat (S.1 5 (S.1 2 l).toNat).toNat)) := rfl
  generalize hone : S.1 5 (S.1 1 l).toNat = one at *
  generalize htwo : S.1 5 (S.1 2 l).toNat = two at *
  generalize hlf : S.1 1 l = left at *
  generalize hrt : S.1 2 l = right at *
  have i1 : 0 ≤ one ∧ one < (240 : Nat) := by omega
  have i2 : 0 ≤ two ∧ two < (240 : Nat) := by omega
  have ek1 : σ.1 49 0 one.toNat = S.1 0 one.toNat := my_rl hv (a := 0) (by omega) (by omega) rfl (by omega)
  have ek2 : σ.1 49 0 two.toNat = S.1 0 two.toNat := my_rl hv (a := 0) (by omega) (by omega) rfl (by omega)
  have we : ∀ gone : Int, s_al S gone → (0 ≤ gone ∧ gone < 100) ∧ (-1 ≤ S.1 6 gone.toNat ∧ S.1 6 gone.toNat < 60) ∧ (-1 ≤ S.1 7 gone.toNat ∧ S.1 7 gone.toNat < 100) := by
    intro gone hg
    obtain ⟨g1, g2, -⟩ := hg
    have w := hok.2.2.1 gone.toNat (by omega)
    have w6 := w.2.1
    have w7 := w.2.2.1
    omega
  refine hG 100 [63, 82] _ _ _ _ ?_
  refine And.intro i1 (And.intro (fun y => ?_) (fun y => ?_))
  · have y : σ.1 49 0 one.toNat = 0 := y
    rw [ek1] at y
    obtain ⟨g1, g4⟩ := sgo1 one.toNat (by omega) y
    obtain ⟨w1, w2, w3⟩ := we _ g1
    refine And.intro rfl ⟨S, one.toNat, s_go S one.toNat left, hv, by omega, by omega, by omega, by omega, by omega, rfl, w1, w2, w3, fun z => And.intro (Or.inl rfl) (h3 ?_), fun z σ' v' f' => And.intro (Or.inr rfl) (h4 _ ?_ σ' v' f')⟩
    · rw [rd, if_pos (g4.mp z)]
    · rw [rd, if_neg (fun w => z (g4.mpr w)), if_pos y]
      rfl
  · have y : ¬ σ.1 49 0 one.toNat = 0 := y
    rw [ek1] at y
    refine hG 100 [82] _ _ _ _ ?_
    refine And.intro i2 (And.intro (fun w => ?_) (fun w => ?_))
    · have w : σ.1 49 0 two.toNat = 0 := w
      rw [ek2] at w
      obtain ⟨g1, g4⟩ := sgo2 two.toNat (by omega) w
      obtain ⟨w1, w2, w3⟩ := we _ g1
      refine And.intro rfl ⟨S, two.toNat, s_go S two.toNat right, hv, by omega, by omega, by omega, by omega, by omega, rfl, w1, w2, w3, fun z => And.intro (Or.inl rfl) (h3 ?_), fun z σ' v' f' => And.intro (Or.inr rfl) (h4 _ ?_ σ' v' f')⟩
      · rw [rd, if_pos (g4.mp z).symm]
      · rw [rd, if_neg (fun w => z (g4.mpr w.symm)), if_neg y, if_pos w]
        rfl
    · have w : ¬ σ.1 49 0 two.toNat = 0 := w
      rw [ek2] at w
      have hne : ¬ one = two := by
        intro z
        have m1 := q1.2.2.1 (by have := q1.1; omega)
        have m2 := q2.2.2.1 (by have := q2.1; omega)
        rw [z] at m1
        have m3 := m1.symm.trans m2
        omega
      have c0 : (0 : Int) ≤ 0 ∧ (0 : Int) < (4 : Nat) := by omega
      have r46 : sn_R (σ.1 46 0 0 + 2) := by rw [e46]; unfold sn_R; omega
      refine hG 30 [97] _ _ _ _ ?_
      refine And.intro c0 (And.intro r46 (And.intro (fun v => ?_) (fun v => ?_)))
      · have v : σ.1 46 0 0 + 2 ≤ 60 := v
        rw [e46] at v
        obtain ⟨⟨ka1, ka2, -⟩, ⟨ka3, ka4, -⟩, -⟩ := (hok.2.1 one.toNat (by omega)).2.2.1 (by have := q1.1; omega)
        obtain ⟨⟨kb1, kb2, -⟩, ⟨kb3, kb4, -⟩, -⟩ := (hok.2.1 two.toNat (by omega)).2.2.1 (by have := q2.1; omega)
        refine hG 60 [125] _ _ _ _ ?_
        refine And.intro rfl ⟨S, hv, by omega, fun σ1 v1 f1 => ?_⟩
        refine And.intro rfl ⟨_, v1, by omega, fun σ2 v2 f2 => ?_⟩
        refine And.intro rfl ⟨_, v2, by omega, fun σ3 v3 f3 => ?_⟩
        refine And.intro rfl ⟨_, v3, by omega, fun σ4 v4 f4 => ?_⟩
        refine And.intro rfl ⟨_, v4, by omega, fun σ5 v5 f5 => ?_⟩
        have f15 := sn_fr_t f1 (sn_fr_t f2 (sn_fr_t f3 (sn_fr_t f4 f5)))
        have v5 : my_v (y_r (y_r (y_r (y_r (y_r S 0 l (-1)) 0 one.toNat (-1)) 0 two.toNat (-1)) 4 left.toNat (-1)) 4 right.toNat (-1)) 0 σ5 := v5
        have g1 : σ5.1 50 0 one.toNat = S.1 1 one.toNat := my_rl v5 (a := 1) (by omega) (by omega) rfl (by omega)
        have g2 : σ5.1 50 0 two.toNat = S.1 1 two.toNat := my_rl v5 (a := 1) (by omega) (by omega) rfl (by omega)
        refine hG 30 [146] _ _ _ _ ?_
        refine And.intro i1 (And.intro i2 ?_)
        refine And.intro rfl ⟨0, _, rfl, by omega, v5, (by show S.2.1 < 60; omega), fun _ => ?_, fun σ6 v6 f6 => ?_⟩
        · show (0 ≤ σ5.1 50 0 one.toNat ∧ σ5.1 50 0 one.toNat < 100) ∧ 0 ≤ σ5.1 50 0 two.toNat ∧ σ5.1 50 0 two.toNat < 100
          rw [g1, g2]
          omega
        · have v6 : my_v (s_aL (y_r (y_r (y_r (y_r (y_r S 0 l (-1)) 0 one.toNat (-1)) 0 two.toNat (-1)) 4 left.toNat (-1)) 4 right.toNat (-1)) 3 (σ5.1 50 0 one.toNat) (σ5.1 50 0 two.toNat)) 0 σ6 := v6
          rw [g1, g2] at v6
          have m1 : σ6.1 51 0 one.toNat = S.1 2 one.toNat := (my_rl v6 (a := 2) (l := one.toNat) (by omega) (by omega) rfl (by omega)).trans (sn_up_ne _ (show one.toNat ≠ S.2.1 by omega))
          have m2 : σ6.1 51 0 two.toNat = S.1 2 two.toNat := (my_rl v6 (a := 2) (l := two.toNat) (by omega) (by omega) rfl (by omega)).trans (sn_up_ne _ (show two.toNat ≠ S.2.1 by omega))
          refine hG 30 [] _ _ _ _ ?_
          refine And.intro i1 (And.intro i2 ?_)
          refine And.intro rfl ⟨0, _, rfl, by omega, v6, (by show S.2.1 + 1 < 60; omega), fun _ => ?_, fun σ7 v7 f7 => ?_⟩
          · show (0 ≤ σ6.1 51 0 one.toNat ∧ σ6.1 51 0 one.toNat < 100) ∧ 0 ≤ σ6.1 51 0 two.toNat ∧ σ6.1 51 0 two.toNat < 100
            rw [m1, m2]
            omega
          · have v7 : my_v (s_aL (s_aL (y_r (y_r (y_r (y_r (y_r S 0 l (-1)) 0 one.toNat (-1)) 0 two.toNat (-1)) 4 left.toNat (-1)) 4 right.toNat (-1)) 3 (S.1 1 one.toNat) (S.1 1 two.toNat)) 3 (σ6.1 51 0 one.toNat) (σ6.1 51 0 two.toNat)) 0 σ7 := v7
            rw [m1, m2] at v7
            refine And.intro (Or.inr rfl) ?_
            refine h4 (s_sp S l one.toNat two.toNat) (by rw [rd, if_neg hne, if_neg y, if_neg w, if_neg (by omega)]) σ7 (my_e v7 (fun a ha => ?_) rfl) (sn_fr_t f15 (sn_fr_t f6 f7))
            match a, ha with
            | 0, _ => exact congrArg (fun p => sn_up (sn_up p S.2.1 3) (S.2.1 + 1) 3) (up3_0 (S.1 0) one.toNat two.toNat l)
            | 1, _ => rfl
            | 2, _ => rfl
            | 3, _ => rfl
            | 4, _ =>
              show sn_up (sn_up (S.1 4) (S.1 1 l).toNat (-1)) (S.1 2 l).toNat (-1) = sn_up (sn_up (S.1 4) left.toNat (-1)) right.toNat (-1)
              rw [hlf, hrt]
            | 5, _ => rfl
            | 6, _ => exact up4_6 (S.1 6) (S.1 1 one.toNat).toNat (S.1 1 two.toNat).toNat (S.1 2 one.toNat).toNat (S.1 2 two.toNat).toNat (S.2.1 : Int) ((S.2.1 + 1 : Nat) : Int)
            | 7, _ => rfl
            | 8, _ => rfl
            | a + 9, h => omega
      · have v : 60 < σ.1 46 0 0 + 2 := v
        rw [e46] at v
        exact And.intro (Or.inl rfl) (h3 (by rw [rd, if_neg hne, if_neg y, if_neg w, if_pos (by omega)]))
theorem ct_MD_reduceAt : sn_CT y_MD_reduceAt ws_MD_reduceAt 2 sp_MD_reduceAt := by
  refine sn_CT_of (pr := pr_MD_reduceAt) (fi := (sn_lk ft_MD)) (lc := (sn_lk lc_MD)) (ca := sn_lk ca_MD_reduceAt) pl_MD ?_ pk_MD_reduceAt FI_MD LC_MD co_MD_reduceAt ?_
  · intro vs σ post h
    unfold sp_MD_reduceAt at h
    split at h
    · exact Nat.le_of_ble_eq_true rfl
    · exact h.elim
  · intro vs σ post h hvs hR
    unfold sp_MD_reduceAt at h
    split at h
    · next q c =>
      obtain ⟨rfl, T, S, hv, hok, h⟩ := h
      intro G hG
      have b1 := hok.1.1
      have b2 := hok.1.2.1
      have b3 := hok.1.2.2
      have e46 : σ.1 46 0 0 = (S.2.1 : Int) := hv.2.2.1
      refine hG 100 [44] _ _ _ _ ?_
      refine And.intro rfl (And.intro (by rw [e46]; omega) (fun x hx => ?_))
      have hx : ca_is (σ.1 49 0) (σ.1 46 0 0).toNat c x := hx
      rw [e46] at hx
      have hx : ca_is (S.1 0) S.2.1 c x := ca_ext (fun l hl => my_rl hv (a := 0) (by omega) (by omega) rfl (by omega)) hx
      obtain ⟨h1, h2⟩ := h x hx
      refine And.intro (fun x0 => And.intro (Or.inl rfl) (h1 x0)) (fun x0 => ?_)
      have x0 : 0 ≤ x := x0
      obtain ⟨h3, h4⟩ := h2 x0
      obtain ⟨l, hl, rfl, hk, -⟩ : ∃ l : Nat, l < S.2.1 ∧ x = (l : Int) ∧ S.1 0 l = 3 ∧ cn_ct (S.1 0) 3 l = c := by
        rcases hx with z | ⟨rfl, -⟩
        · exact z
        · omega
      rw [show ((l : Int)).toNat = l from rfl] at h3 h4
      obtain ⟨⟨al, ar⟩, s1, s2⟩ := s_rd_src hok hl hk
      have il : (0 : Int) ≤ (l : Int) ∧ (l : Int) < (240 : Nat) := by omega
      have el : σ.1 50 0 l = S.1 1 l := my_rl hv (a := 1) (by omega) (by omega) rfl (by omega)
      have er : σ.1 51 0 l = S.1 2 l := my_rl hv (a := 2) (by omega) (by omega) rfl (by omega)
      have ial : 0 ≤ σ.1 50 0 l ∧ σ.1 50 0 l < (400 : Nat) := by rw [el]; have := al.1; have := al.2.1; omega
      have iar : 0 ≤ σ.1 51 0 l ∧ σ.1 51 0 l < (400 : Nat) := by rw [er]; have := ar.1; have := ar.2.1; omega
      have esl : σ.1 54 0 (σ.1 50 0 l).toNat = S.1 5 (S.1 1 l).toNat := by rw [el]; exact my_rg hv (a := 5) (by omega) (by omega) (by have := al.1; have := al.2.1; omega) rfl (by omega)
      have esr : σ.1 54 0 (σ.1 51 0 l).toNat = S.1 5 (S.1 2 l).toNat := by rw [er]; exact my_rg hv (a := 5) (by omega) (by omega) (by have := ar.1; have := ar.2.1; omega) rfl (by omega)
      have r44 : G 44 [some (.inr (.inr (40, 0))), some (.inl c), some (.inl (l : Int)), some (.inl (S.1 1 l)), some (.inl (S.1 2 l)), some (.inl (S.1 5 (S.1 1 l).toNat)), some (.inl (S.1 5 (S.1 2 l).toNat))] [] σ := rd_44 hv hok hl hk h3 h4 G hG c
      rw [← esl, ← esr, ← el, ← er] at r44
      exact And.intro il (And.intro il (And.intro ial (And.intro iar r44)))
    · exact h.elim
