/-! A cut between a tensor and a par link: the links go, two smaller cuts come. -/
def s_p4 (S : sT) (one two e : Nat) : Prop := (e : Int) = S.1 1 one ∨ (e : Int) = S.1 2 one ∨ (e : Int) = S.1 1 two ∨ (e : Int) = S.1 2 two
/-- the links are gone and their premises free -/
def s_kl (S : sT) (c one two : Nat) : sT := (fun x => match x with
  | 0 => sn_up (sn_up (sn_up (S.1 0) one (-1)) two (-1)) c (-1)
  | 1 => S.1 1
  | 2 => S.1 2
  | 3 => S.1 3
  | 4 => sn_up (sn_up (S.1 4) (S.1 1 c).toNat (-1)) (S.1 2 c).toNat (-1)
  | 5 => S.1 5
  | 6 => sn_up (sn_up (sn_up (sn_up (S.1 6) (S.1 1 one).toNat (-1)) (S.1 1 two).toNat (-1)) (S.1 2 one).toNat (-1)) (S.1 2 two).toNat (-1)
  | x + 7 => S.1 (x + 7), S.2)
def s_bt (S : sT) (c one two : Nat) : Prop := c < S.2.1 ∧ S.1 0 c = 3 ∧ S.1 5 (S.1 1 c).toNat = (one : Int) ∧ S.1 5 (S.1 2 c).toNat = (two : Int) ∧ ¬ S.1 0 one = 0 ∧ ¬ S.1 0 two = 0
def s_pd (T : fT) : Prop := ∀ f : Nat, f < T.2 → ¬ T.1 0 f = 0 → 0 ≤ T.1 3 f → T.1 1 (T.1 3 f).toNat = T.1 3 (T.1 1 f).toNat ∧ T.1 2 (T.1 3 f).toNat = T.1 3 (T.1 2 f).toNat
theorem s_bt_f {T : fT} {S : sT} (hpd : s_pd T) (h : s_ok T S) {c one two : Nat} (hp : s_bt S c one two) : (one < S.2.1 ∧ two < S.2.1) ∧ (one ≠ two ∧ one ≠ c ∧ two ≠ c) ∧ ((1 ≤ S.1 0 one ∧ S.1 0 one ≤ 2) ∧ (1 ≤ S.1 0 two ∧ S.1 0 two ≤ 2)) ∧ (S.1 3 one = S.1 1 c ∧ S.1 3 two = S.1 2 c) ∧ (T.1 3 (S.1 4 (S.1 1 one).toNat).toNat = S.1 4 (S.1 1 two).toNat ∧ T.1 3 (S.1 4 (S.1 2 one).toNat).toNat = S.1 4 (S.1 2 two).toNat) := by
  obtain ⟨hc, hk, h1, h2, k1, k2⟩ := hp
  obtain ⟨-, hl, he, -, -, -⟩ := h
  obtain ⟨a1, a2, a3, a4, a5⟩ := (hl c hc).2.2.1 (by omega)
  obtain ⟨-, hdc⟩ := (hl c hc).2.2.2.2 hk
  have side : ∀ (x : Int) (m : Nat), s_al S x → S.1 5 x.toNat = (m : Int) → ¬ S.1 0 m = 0 → m < S.2.1 ∧ (1 ≤ S.1 0 m ∧ S.1 0 m ≤ 2) ∧ S.1 3 m = x := by
    intro x m hx hm hk
    obtain ⟨x1, x2, x3⟩ := id hx
    have tn : ((m : Int)).toNat = m := rfl
    have q := (he x.toNat (by omega)).2.2.2.1
    rw [hm] at q
    have q1 := ((he x.toNat (by omega)).2.2.2.2 x3).1
    have q3 := ((he x.toNat (by omega)).2.2.2.2 x3).2.2.1
    rw [hm, tn] at q1 q3
    have hk12 : 1 ≤ S.1 0 m ∧ S.1 0 m ≤ 2 := by
      rcases q1 with z | z | z
      · exact absurd z hk
      · rw [z]; decide
      · rw [z]; decide
    have q4 := q3 hk12.1
    exact ⟨by omega, hk12, by rw [q4]; omega⟩
  obtain ⟨o1, o2, o3⟩ := side _ one a1 h1 k1
  obtain ⟨t1, t2, t3⟩ := side _ two a2 h2 k2
  obtain ⟨x1, x2, x3, x4, x5⟩ := (hl one o1).2.2.2.1 (by omega)
  obtain ⟨y1, y2, y3, y4, y5⟩ := (hl two t1).2.2.2.1 (by omega)
  rw [o3] at x3 x4 x5
  rw [t3] at y4 y5
  have hty := (he (S.1 1 c).toNat (by have := a1.1; have := a1.2.1; omega)).1
  have hp0 := a1.2.2
  have q := hpd (S.1 4 (S.1 1 c).toNat).toNat (by omega) (by rw [x3]; exact k1) (by rw [hdc]; exact a2.2.2)
  rw [hdc, x4, x5, y4, y5] at q
  refine ⟨⟨o1, t1⟩, ⟨fun z => ?_, fun z => ?_, fun z => ?_⟩, ⟨o2, t2⟩, ⟨o3, t3⟩, ⟨q.1.symm, q.2.symm⟩⟩
  · rw [z, t3] at o3; exact a3 o3.symm
  · rw [z] at o2; omega
  · rw [z] at t2; omega
set_option maxHeartbeats 2000000 in
theorem s_kl_ok {T : fT} {S : sT} (hpd : s_pd T) (h : s_ok T S) {c one two : Nat} (hp : s_bt S c one two) : s_ok T (s_kl S c one two) ∧ (∀ e : Nat, s_p4 S one two e → s_fr (s_kl S c one two) (e : Int) ∧ (s_kl S c one two).1 4 e = S.1 4 e) ∧ cn_ct ((s_kl S c one two).1 0) (-1) S.2.1 ≤ 21 ∧ ∀ k, cn_ct ((s_kl S c one two).1 0) k S.2.1 = cn_ct (S.1 0) k S.2.1 - (if k < 0 ∨ S.1 0 one = k then 1 else 0) - (if k < 0 ∨ S.1 0 two = k then 1 else 0) - (if k < 0 ∨ S.1 0 c = k then 1 else 0) := by
  obtain ⟨⟨o1, t1⟩, ⟨not, noc, ntc⟩, ⟨o2, t2⟩, ⟨o3, t3⟩, -⟩ := s_bt_f hpd h hp
  obtain ⟨hc, hk, h1, h2, -, -⟩ := hp
  obtain ⟨⟨b1, b2, b3⟩, hl, he, hcn, c1, c2⟩ := h
  obtain ⟨a1, a2, a3, a4, a5⟩ := (hl c hc).2.2.1 (by omega)
  obtain ⟨l1, l2, l3⟩ := id a1
  obtain ⟨r1, r2, r3⟩ := id a2
  obtain ⟨x1, x2, x3, x4, x5⟩ := (hl one o1).2.2.1 o2.1
  obtain ⟨y1, y2, y3, y4, y5⟩ := (hl two t1).2.2.1 t2.1
  have m0 : ∀ l, l ≠ c → l ≠ one → l ≠ two → (s_kl S c one two).1 0 l = S.1 0 l := fun l n1 n2 n3 => by
    show sn_up (sn_up (sn_up (S.1 0) one (-1)) two (-1)) c (-1) l = _
    rw [sn_up_ne _ n1, sn_up_ne _ n3, sn_up_ne _ n2]
  have m0d : ∀ l, Box (l = c ∨ l = one ∨ l = two) → (s_kl S c one two).1 0 l = -1 := fun l hl => by
    show sn_up (sn_up (sn_up (S.1 0) one (-1)) two (-1)) c (-1) l = -1
    unfold sn_up
    by_cases z : l = c
    · rw [if_pos z]
    · rw [if_neg z]
      by_cases z2 : l = two
      · rw [if_pos z2]
      · rw [if_neg z2]
        rcases hl with y | y | y
        · exact absurd y z
        · rw [if_pos y]
        · exact absurd y z2
  have m1 : ∀ l, (s_kl S c one two).1 1 l = S.1 1 l ∧ (s_kl S c one two).1 2 l = S.1 2 l ∧ (s_kl S c one two).1 3 l = S.1 3 l := fun _ => ⟨rfl, rfl, rfl⟩
  have m4 : ∀ e, e ≠ (S.1 1 c).toNat → e ≠ (S.1 2 c).toNat → (s_kl S c one two).1 4 e = S.1 4 e := fun e n1 n2 => up2_o n1 n2
  have m4d : ∀ e, Box (e = (S.1 1 c).toNat ∨ e = (S.1 2 c).toNat) → (s_kl S c one two).1 4 e = -1 := fun e he => by
    show sn_up (sn_up (S.1 4) (S.1 1 c).toNat (-1)) (S.1 2 c).toNat (-1) e = -1
    by_cases z : e = (S.1 2 c).toNat
    · rw [z, sn_up_at]
    · rw [sn_up_ne _ z]
      rcases he with y | y
      · rw [y, sn_up_at]
      · exact absurd y z
  have m5 : ∀ e, (s_kl S c one two).1 5 e = S.1 5 e ∧ (s_kl S c one two).1 7 e = S.1 7 e ∧ (s_kl S c one two).1 8 e = S.1 8 e := fun _ => ⟨rfl, rfl, rfl⟩
  have m6 : ∀ e : Nat, ¬ Box (s_p4 S one two e) → (s_kl S c one two).1 6 e = S.1 6 e := fun e hn => by
    have n1 : e ≠ (S.1 1 one).toNat := fun z => hn (Or.inl (by have := x1.1; omega))
    have n2 : e ≠ (S.1 2 one).toNat := fun z => hn (Or.inr (Or.inl (by have := x2.1; omega)))
    have n3 : e ≠ (S.1 1 two).toNat := fun z => hn (Or.inr (Or.inr (Or.inl (by have := y1.1; omega))))
    have n4 : e ≠ (S.1 2 two).toNat := fun z => hn (Or.inr (Or.inr (Or.inr (by have := y2.1; omega))))
    show sn_up (sn_up (sn_up (sn_up (S.1 6) (S.1 1 one).toNat (-1)) (S.1 1 two).toNat (-1)) (S.1 2 one).toNat (-1)) (S.1 2 two).toNat (-1) e = _
    rw [sn_up_ne _ n4, sn_up_ne _ n2, sn_up_ne _ n3, sn_up_ne _ n1]
  have m6d : ∀ e : Nat, Box (s_p4 S one two e) → (s_kl S c one two).1 6 e = -1 := fun e hp => by
    show sn_up (sn_up (sn_up (sn_up (S.1 6) (S.1 1 one).toNat (-1)) (S.1 1 two).toNat (-1)) (S.1 2 one).toNat (-1)) (S.1 2 two).toNat (-1) e = -1
    unfold sn_up
    by_cases z4 : e = (S.1 2 two).toNat
    · rw [if_pos z4]
    · rw [if_neg z4]
      by_cases z2 : e = (S.1 2 one).toNat
      · rw [if_pos z2]
      · rw [if_neg z2]
        by_cases z3 : e = (S.1 1 two).toNat
        · rw [if_pos z3]
        · rw [if_neg z3]
          rcases hp with y | y | y | y
          · rw [if_pos (by omega)]
          · exact absurd (show e = _ by omega) z2
          · exact absurd (show e = _ by omega) z3
          · exact absurd (show e = _ by omega) z4
  have cc : ∀ k, cn_ct ((s_kl S c one two).1 0) k S.2.1 = cn_ct (S.1 0) k S.2.1 - (if k < 0 ∨ S.1 0 one = k then 1 else 0) - (if k < 0 ∨ S.1 0 two = k then 1 else 0) - (if k < 0 ∨ S.1 0 c = k then 1 else 0) := fun k => by
    show cn_ct (sn_up (sn_up (sn_up (S.1 0) one (-1)) two (-1)) c (-1)) k S.2.1 = _
    rw [cn_ct_rm k (by rw [sn_up_ne _ (Ne.symm ntc), sn_up_ne _ (Ne.symm noc), hk]; decide) _ hc, cn_ct_rm k (by rw [sn_up_ne _ (Ne.symm not)]; omega) _ t1, cn_ct_rm k (by omega) _ o1]
    rw [sn_up_ne (p := sn_up (S.1 0) one (-1)) _ (Ne.symm ntc), sn_up_ne (p := S.1 0) _ (Ne.symm noc), sn_up_ne (p := S.1 0) _ (Ne.symm not)]
  have n2 : (s_kl S c one two).2 = S.2 := rfl
  have p4u : ∀ e : Nat, Box (s_p4 S one two e) → (e < S.2.2.1 ∧ 0 ≤ S.1 4 e) ∧ Box (S.1 6 e = (one : Int) ∨ S.1 6 e = (two : Int)) := by
    intro e hp
    have g : ∀ (x : Int) (m : Nat), s_al S x → S.1 6 x.toNat = (m : Int) → (e : Int) = x → (e < S.2.2.1 ∧ 0 ≤ S.1 4 e) ∧ S.1 6 e = (m : Int) := by
      intro x m hx hm ex
      have e1 : x.toNat = e := by omega
      obtain ⟨z1, z2, z3⟩ := hx
      rw [e1] at z3 hm
      exact ⟨⟨by omega, z3⟩, hm⟩
    rcases hp with y | y | y | y
    · obtain ⟨q1, q2⟩ := g _ one x1 x4 y; exact ⟨q1, Or.inl q2⟩
    · obtain ⟨q1, q2⟩ := g _ one x2 x5 y; exact ⟨q1, Or.inl q2⟩
    · obtain ⟨q1, q2⟩ := g _ two y1 y4 y; exact ⟨q1, Or.inr q2⟩
    · obtain ⟨q1, q2⟩ := g _ two y2 y5 y; exact ⟨q1, Or.inr q2⟩
  have p4n : ∀ e : Nat, Box (s_p4 S one two e) → e ≠ (S.1 1 c).toNat ∧ e ≠ (S.1 2 c).toNat ∧ S.1 7 e = -1 := by
    intro e hp
    obtain ⟨⟨q1, q2⟩, q3⟩ := p4u e hp
    have hne : S.1 6 e ≠ (c : Int) ∧ 0 ≤ S.1 6 e := by rcases q3 with z | z <;> rw [z] <;> omega
    refine ⟨fun z => hne.1 (by rw [z]; exact a4), fun z => hne.1 (by rw [z]; exact a5), ?_⟩
    have q7 := (he e q1).2.2.1
    by_cases z : 0 ≤ S.1 7 e
    · have := (((he e q1).2.2.2.2 q2).2.2.2.2 z).1; omega
    · omega
  refine ⟨?_, fun e hp => ?_, ?_, cc⟩
  · generalize s_kl S c one two = S' at *
    refine ⟨by rw [n2]; exact ⟨b1, b2, b3⟩, fun l hll => ?_, fun e hee => ?_, fun x hx => ?_, ?_, ?_⟩
    · rw [n2] at hll
      by_cases hd : Box (l = c ∨ l = one ∨ l = two)
      · refine ⟨by rw [m0d l hd]; omega, fun z => ?_, fun z => ?_, fun z => ?_, fun z => ?_⟩ <;> rw [m0d l hd] at z <;> omega
      · have nlc : l ≠ c := fun z => hd (Or.inl z)
        have nlo : l ≠ one := fun z => hd (Or.inr (Or.inl z))
        have nlt : l ≠ two := fun z => hd (Or.inr (Or.inr z))
        refine s_wl_c (hl l hll) ⟨m0 l nlc nlo nlt, (m1 l).1, (m1 l).2.1, (m1 l).2.2⟩ (by rw [n2]; exact Nat.le_refl _) (fun h0 e h1' h2' h3 => ?_)
        have src : Box (S.1 5 e = (l : Int) ∨ S.1 6 e = (l : Int)) := by
          have w0 := (hl l hll).1
          by_cases z : S.1 0 l = 0
          · obtain ⟨p1, p2, p3, p4, p5, p6, -⟩ := (hl l hll).2.1 z
            rcases h3 with y | y | y
            · left; rw [← p4, ← y]; rfl
            · left; rw [← p5, ← y]; rfl
            · omega
          · obtain ⟨p1, p2, p3, p4, p5⟩ := (hl l hll).2.2.1 (by clear h3; omega)
            rcases h3 with y | y | y
            · right; rw [← p4, ← y]; rfl
            · right; rw [← p5, ← y]; rfl
            · left
              by_cases z3 : S.1 0 l = 3
              · have := ((hl l hll).2.2.2.2 z3).1; omega
              · obtain ⟨-, q2, -⟩ := (hl l hll).2.2.2.1 (by omega)
                rw [← q2, ← y]; rfl
        clear h3
        have nl : e ≠ (S.1 1 c).toNat := fun z => by
          rcases src with y | y
          · rw [z, h1] at y; omega
          · rw [z, a4] at y; omega
        have nr : e ≠ (S.1 2 c).toNat := fun z => by
          rcases src with y | y
          · rw [z, h2] at y; omega
          · rw [z, a5] at y; omega
        refine ⟨m4 e nl nr, (m5 e).1, fun z => ?_⟩
        rw [m6 e (fun hp => ?_)]
        · exact z
        · rcases (p4u e hp).2 with y | y <;> rw [y] at z <;> omega
    · rw [n2] at hee
      have w := he e hee
      by_cases hd : Box (e = (S.1 1 c).toNat ∨ e = (S.1 2 c).toNat)
      · have hnp : ¬ Box (s_p4 S one two e) := fun hp => by
          obtain ⟨q1, q2, -⟩ := p4n e hp
          rcases hd with y | y
          · exact q1 y
          · exact q2 y
        have w4 := w.1
        unfold s_we
        rw [m4d e hd, n2, (m5 e).1, (m5 e).2.1, m6 e hnp]
        exact ⟨by omega, w.2.1, w.2.2.1, w.2.2.2.1, fun z => by omega⟩
      · have nl : e ≠ (S.1 1 c).toNat := fun z => hd (Or.inl z)
        have nr : e ≠ (S.1 2 c).toNat := fun z => hd (Or.inr z)
        have src : Box (0 ≤ S.1 4 e → (S.1 5 e).toNat ≠ c ∧ (S.1 5 e).toNat ≠ one ∧ (S.1 5 e).toNat ≠ two) := by
          intro z
          have f1 := (w.2.2.2.2 z).1
          have f3 := (w.2.2.2.2 z).2.2.1
          refine ⟨fun y => ?_, fun y => ?_, fun y => ?_⟩
          · rw [y, hk] at f1; omega
          · rw [y] at f3
            have := f3 o2.1
            omega
          · rw [y] at f3
            have := f3 t2.1
            omega
        by_cases hp : Box (s_p4 S one two e)
        · obtain ⟨⟨-, q2⟩, -⟩ := p4u e hp
          obtain ⟨-, -, q7⟩ := p4n e hp
          obtain ⟨s1, s2, s3⟩ := src q2
          have af := box (w.2.2.2.2 q2)
          have w4 := w.1
          have w5 := w.2.2.2.1
          unfold s_we
          rw [m4 e nl nr, (m5 e).1, (m5 e).2.1, m6d e hp, n2, m0 _ s1 s2 s3, (m1 _).1, (m1 _).2.1, (m1 _).2.2, q7]
          exact ⟨w4, by clear hp; omega, by clear hp; omega, w5, fun _ => ⟨af.1, af.2.1, af.2.2.1, fun z => by omega, fun z => by omega⟩⟩
        · refine s_we_c w ⟨m4 e nl nr, (m5 e).1, m6 e hp, (m5 e).2.1⟩ (by rw [n2]; exact Nat.le_refl _) (by rw [n2]; exact Nat.le_refl _) (fun z => ?_) (fun z y => ?_) (fun z y => (m5 _).2.2)
          · obtain ⟨s1, s2, s3⟩ := src z
            exact ⟨m0 _ s1 s2 s3, fun _ => ⟨(m1 _).1, (m1 _).2.1⟩, (m1 _).2.2⟩
          · obtain ⟨k1, k2⟩ := (w.2.2.2.2 z).2.2.2.1 y
            have nc : (S.1 6 e).toNat ≠ c := fun x => by
              rw [x] at k2
              rcases k2 with k2 | k2 <;> omega
            have no : (S.1 6 e).toNat ≠ one := fun x => by
              rw [x] at k2
              rcases k2 with k2 | k2
              · exact hp (Or.inl k2.symm)
              · exact hp (Or.inr (Or.inl k2.symm))
            have nt : (S.1 6 e).toNat ≠ two := fun x => by
              rw [x] at k2
              rcases k2 with k2 | k2
              · exact hp (Or.inr (Or.inr (Or.inl k2.symm)))
              · exact hp (Or.inr (Or.inr (Or.inr k2.symm)))
            rw [m0 _ nc no nt, (m1 _).1, (m1 _).2.1]
            exact ⟨rfl, id, id⟩
    · rw [n2] at hx
      obtain ⟨⟨q1, q2, q3⟩, q4⟩ := hcn x hx
      have q5 := (((he (S.1 8 x).toNat (by omega)).2.2.2.2 q3).2.2.2.2 (by omega)).1
      have nl : (S.1 8 x).toNat ≠ (S.1 1 c).toNat := fun z => by rw [z, a4] at q5; omega
      have nr : (S.1 8 x).toNat ≠ (S.1 2 c).toNat := fun z => by rw [z, a5] at q5; omega
      unfold s_wc
      rw [(m5 x).2.2, (m5 _).2.1]
      exact ⟨⟨q1, by rw [n2]; exact q2, by rw [m4 _ nl nr]; exact q3⟩, q4⟩
    · rw [n2, cc]
      split <;> split <;> split <;> omega
    · rw [n2, cc]
      split <;> split <;> split <;> omega
  · obtain ⟨⟨q1, q2⟩, -⟩ := p4u e hp
    obtain ⟨nl, nr, q7⟩ := p4n e hp
    have tn : ((e : Int)).toNat = e := rfl
    refine ⟨⟨⟨by clear hp; omega, by rw [n2]; clear hp; omega, by rw [tn, m4 e nl nr]; exact q2⟩, by rw [tn]; exact m6d e hp, by rw [tn, (m5 e).2.1]; exact q7⟩, m4 e nl nr⟩
  · rw [cc, if_pos (Or.inl (by omega)), if_pos (Or.inl (by omega)), if_pos (Or.inl (by omega))]
    omega
def s_sp (S : sT) (c one two : Nat) : sT := s_ct (s_ct (s_kl S c one two) (S.1 1 one) (S.1 1 two)) (S.1 2 one) (S.1 2 two)
theorem s_sp_ok {T : fT} {S : sT} (hpd : s_pd T) (h : s_ok T S) {c one two : Nat} (hp : s_bt S c one two) (h60 : S.2.1 + 2 ≤ 60) : s_ok T (s_sp S c one two) := by
  obtain ⟨⟨o1, t1⟩, ⟨not, noc, ntc⟩, ⟨o2, t2⟩, ⟨o3, t3⟩, ⟨d1, d2⟩⟩ := s_bt_f hpd h hp
  obtain ⟨k1, k2, k3, -⟩ := s_kl_ok hpd h hp
  have hl := h.2.1
  obtain ⟨x1, x2, x3, x4, x5⟩ := (hl one o1).2.2.1 o2.1
  obtain ⟨y1, y2, y3, y4, y5⟩ := (hl two t1).2.2.1 t2.1
  have nn : (s_kl S c one two).2 = S.2 := rfl
  have cv : ∀ x : Int, 0 ≤ x → ((x.toNat : Nat) : Int) = x := fun x hx => by omega
  obtain ⟨f1, e1⟩ := k2 (S.1 1 one).toNat (Or.inl (cv _ x1.1))
  obtain ⟨f2, e2⟩ := k2 (S.1 2 one).toNat (Or.inr (Or.inl (cv _ x2.1)))
  obtain ⟨f3, e3⟩ := k2 (S.1 1 two).toNat (Or.inr (Or.inr (Or.inl (cv _ y1.1))))
  obtain ⟨f4, e4⟩ := k2 (S.1 2 two).toNat (Or.inr (Or.inr (Or.inr (cv _ y2.1))))
  rw [cv _ x1.1] at f1
  rw [cv _ x2.1] at f2
  rw [cv _ y1.1] at f3
  rw [cv _ y2.1] at f4
  have u : ∀ x y : Int, S.1 6 x.toNat = (one : Int) → S.1 6 y.toNat = (two : Int) → x ≠ y := fun x y hx hy z => by rw [z, hy] at hx; omega
  have n11 := u _ _ x4 y4
  have n12 := u _ _ x4 y5
  have n21 := u _ _ x5 y4
  have n22 := u _ _ x5 y5
  have q0 := x1.1; have q1 := x2.1; have q2 := y1.1; have q3 := y2.1
  have s2 := s_ct_ok (l := S.1 1 one) (r := S.1 1 two) k1 (by rw [nn]; omega) (by rw [nn]; omega) f1 f3 n11 (by rw [e1, e3]; exact d1)
  have g6 : ∀ x : Int, 0 ≤ x → x ≠ S.1 1 one → x ≠ S.1 1 two → (s_ct (s_kl S c one two) (S.1 1 one) (S.1 1 two)).1 6 x.toNat = (s_kl S c one two).1 6 x.toNat := fun x hx h1 h2 => up2_o (by omega) (by omega)
  have cc : cn_ct ((s_ct (s_kl S c one two) (S.1 1 one) (S.1 1 two)).1 0) (-1) (S.2.1 + 1) = cn_ct ((s_kl S c one two).1 0) (-1) S.2.1 + (if (0 : Int) ≤ 3 ∧ ((-1 : Int) < 0 ∨ (3 : Int) = -1) then 1 else 0) := cn_ct_add _ _ _ _
  refine s_ct_ok (l := S.1 2 one) (r := S.1 2 two) s2 (by show S.2.1 + 1 < 60; omega) ?_ ⟨f2.1, ?_, f2.2.2⟩ ⟨f4.1, ?_, f4.2.2⟩ n22 ?_
  · show cn_ct ((s_ct (s_kl S c one two) (S.1 1 one) (S.1 1 two)).1 0) (-1) (S.2.1 + 1) < 24
    rw [cc, if_pos (by omega)]; omega
  · rw [g6 _ q1 (Ne.symm x3) n21]; exact f2.2.1
  · rw [g6 _ q3 (Ne.symm n12) (Ne.symm y3)]; exact f4.2.1
  · show T.1 3 ((s_kl S c one two).1 4 (S.1 2 one).toNat).toNat = (s_kl S c one two).1 4 (S.1 2 two).toNat
    rw [e2, e4]
    exact d2
theorem fT_pd {T : fT} (h : fT_ok T) : s_pd T := by
  intro f hf hk hd
  obtain ⟨h1, -, h3, -, -⟩ := h
  obtain ⟨q1, q2⟩ := (h3 f hf).2 hk
  have n1 : ¬ (T.1 3 (T.1 1 f).toNat < 0 ∨ T.1 3 (T.1 2 f).toNat < 0) := fun z => by
    have := q1 z; omega
  rcases q2 (by omega) (by omega) with ⟨z, -⟩ | ⟨j, hj, z, m1, m2, m3⟩
  · omega
  · rw [z]
    exact ⟨m2, m3⟩
theorem fT_grow {T T' : fT} {S : sT} (h : s_ok T S) (k : dl_k T T') : s_ok T' S := s_ok_T h k.2.1 k.2.2.1 k.2.2.2.1
theorem fT_add_grow {T : fT} {S : sT} {k l r x : Int} (h : s_ok T S) (hx : -1 ≤ x) (hd : 0 ≤ x → T.1 3 x.toNat = -1) : s_ok (fT_add T k l r x) S := by
  refine s_ok_T h (Nat.le_succ _) (fun a g ha hg => ?_) (fun g hg h0 => ?_)
  · match a, ha with
    | 0, _ => exact sn_up_ne _ (by omega)
    | 1, _ => exact sn_up_ne _ (by omega)
    | 2, _ => exact sn_up_ne _ (by omega)
    | 4, _ => exact sn_up_ne _ (by omega)
    | a + 5, _ => rfl
  · refine dx_d_o hx (by omega) (fun z => ?_)
    have q := hd (by omega)
    have e : x.toNat = g := by omega
    rw [e] at q
    omega
