/-! Structures: links and edges by their numbers; what they must be; the steps keep it. -/
abbrev sT := (Nat → Nat → Int) × Nat × Nat × Nat
/-- an edge that is there -/
def s_al (S : sT) (e : Int) : Prop := 0 ≤ e ∧ e < (S.2.2.1 : Int) ∧ 0 ≤ S.1 4 e.toNat
/-- what links and edges of a structure must be -/
def s_wl (T : fT) (S : sT) (l : Nat) : Prop := (-1 ≤ S.1 0 l ∧ S.1 0 l ≤ 3) ∧
  (S.1 0 l = 0 → s_al S (S.1 1 l) ∧ s_al S (S.1 2 l) ∧ S.1 1 l ≠ S.1 2 l ∧ S.1 5 (S.1 1 l).toNat = (l : Int) ∧ S.1 5 (S.1 2 l).toNat = (l : Int) ∧ S.1 3 l = -1 ∧ T.1 3 (S.1 4 (S.1 1 l).toNat).toNat = S.1 4 (S.1 2 l).toNat) ∧
  (1 ≤ S.1 0 l → s_al S (S.1 1 l) ∧ s_al S (S.1 2 l) ∧ S.1 1 l ≠ S.1 2 l ∧ S.1 6 (S.1 1 l).toNat = (l : Int) ∧ S.1 6 (S.1 2 l).toNat = (l : Int)) ∧
  (S.1 0 l = 1 ∨ S.1 0 l = 2 → s_al S (S.1 3 l) ∧ S.1 5 (S.1 3 l).toNat = (l : Int) ∧ T.1 0 (S.1 4 (S.1 3 l).toNat).toNat = S.1 0 l ∧ T.1 1 (S.1 4 (S.1 3 l).toNat).toNat = S.1 4 (S.1 1 l).toNat ∧ T.1 2 (S.1 4 (S.1 3 l).toNat).toNat = S.1 4 (S.1 2 l).toNat) ∧
  (S.1 0 l = 3 → S.1 3 l = -1 ∧ T.1 3 (S.1 4 (S.1 1 l).toNat).toNat = S.1 4 (S.1 2 l).toNat)
def s_we (T : fT) (S : sT) (e : Nat) : Prop := (-1 ≤ S.1 4 e ∧ S.1 4 e < (T.2 : Int)) ∧ (-1 ≤ S.1 6 e ∧ S.1 6 e < (S.2.1 : Int)) ∧ (-1 ≤ S.1 7 e ∧ S.1 7 e < (S.2.2.2 : Int)) ∧ (0 ≤ S.1 5 e ∧ S.1 5 e < (S.2.1 : Int)) ∧
  (0 ≤ S.1 4 e → (S.1 0 (S.1 5 e).toNat = 0 ∨ S.1 0 (S.1 5 e).toNat = 1 ∨ S.1 0 (S.1 5 e).toNat = 2) ∧ (S.1 0 (S.1 5 e).toNat = 0 → S.1 1 (S.1 5 e).toNat = (e : Int) ∨ S.1 2 (S.1 5 e).toNat = (e : Int)) ∧ (1 ≤ S.1 0 (S.1 5 e).toNat → S.1 3 (S.1 5 e).toNat = (e : Int)) ∧
    (0 ≤ S.1 6 e → 1 ≤ S.1 0 (S.1 6 e).toNat ∧ (S.1 1 (S.1 6 e).toNat = (e : Int) ∨ S.1 2 (S.1 6 e).toNat = (e : Int))) ∧ (0 ≤ S.1 7 e → S.1 6 e = -1 ∧ S.1 8 (S.1 7 e).toNat = (e : Int)))
def s_wc (S : sT) (c : Nat) : Prop := s_al S (S.1 8 c) ∧ S.1 7 (S.1 8 c).toNat = (c : Int)
def s_ok (T : fT) (S : sT) : Prop := (S.2.1 ≤ 60 ∧ S.2.2.1 ≤ 100 ∧ S.2.2.2 ≤ 100) ∧ (∀ l, l < S.2.1 → s_wl T S l) ∧ (∀ e, e < S.2.2.1 → s_we T S e) ∧ (∀ c, c < S.2.2.2 → s_wc S c) ∧ cn_ct (S.1 0) (-1) S.2.1 ≤ 24 ∧ cn_ct (S.1 0) 2 S.2.1 ≤ 8
theorem s_al_c {S S' : sT} {x : Int} (h : s_al S x) (hn : S.2.2.1 ≤ S'.2.2.1) (e : S'.1 4 x.toNat = S.1 4 x.toNat) : s_al S' x := ⟨h.1, by have := h.2.1; omega, by rw [e]; exact h.2.2⟩
/-- a link whose rows and edges are as before -/
theorem s_wl_c {T : fT} {S S' : sT} {l : Nat} (h : s_wl T S l) (h0 : S'.1 0 l = S.1 0 l ∧ S'.1 1 l = S.1 1 l ∧ S'.1 2 l = S.1 2 l ∧ S'.1 3 l = S.1 3 l) (hn : S.2.2.1 ≤ S'.2.2.1)
    (hE : 0 ≤ S.1 0 l → ∀ e : Nat, e < S.2.2.1 → 0 ≤ S.1 4 e → ((e : Int) = S.1 1 l ∨ (e : Int) = S.1 2 l ∨ (e : Int) = S.1 3 l) → S'.1 4 e = S.1 4 e ∧ S'.1 5 e = S.1 5 e ∧ (S.1 6 e = (l : Int) → S'.1 6 e = (l : Int))) : s_wl T S' l := by
  obtain ⟨e0, e1, e2, e3⟩ := h0
  obtain ⟨a, b, c, d, f⟩ := h
  have X : ∀ x : Int, 0 ≤ S.1 0 l → s_al S x → (x = S.1 1 l ∨ x = S.1 2 l ∨ x = S.1 3 l) → S'.1 4 x.toNat = S.1 4 x.toNat ∧ S'.1 5 x.toNat = S.1 5 x.toNat ∧ (S.1 6 x.toNat = (l : Int) → S'.1 6 x.toNat = (l : Int)) := by
    intro x h0 hx hc
    obtain ⟨x1, x2, x3⟩ := hx
    exact hE h0 x.toNat (by omega) x3 (by omega)
  unfold s_wl
  rw [e0, e1, e2, e3]
  refine ⟨a, fun z => ?_, fun z => ?_, fun z => ?_, fun z => ?_⟩
  · obtain ⟨b1, b2, b3, b4, b5, b6, b7⟩ := b z
    obtain ⟨p1, p2, -⟩ := X _ (by omega) b1 (Or.inl rfl)
    obtain ⟨q1, q2, -⟩ := X _ (by omega) b2 (Or.inr (Or.inl rfl))
    exact ⟨s_al_c b1 hn p1, s_al_c b2 hn q1, b3, by rw [p2]; exact b4, by rw [q2]; exact b5, b6, by rw [p1, q1]; exact b7⟩
  · obtain ⟨b1, b2, b3, b4, b5⟩ := c z
    obtain ⟨p1, p2, p3⟩ := X _ (by omega) b1 (Or.inl rfl)
    obtain ⟨q1, q2, q3⟩ := X _ (by omega) b2 (Or.inr (Or.inl rfl))
    exact ⟨s_al_c b1 hn p1, s_al_c b2 hn q1, b3, p3 b4, q3 b5⟩
  · obtain ⟨d1, d2, d3, d4, d5⟩ := d z
    obtain ⟨b1, b2, -⟩ := c (by omega)
    obtain ⟨p1, -⟩ := X _ (by omega) b1 (Or.inl rfl)
    obtain ⟨q1, -⟩ := X _ (by omega) b2 (Or.inr (Or.inl rfl))
    obtain ⟨r1, r2, -⟩ := X _ (by omega) d1 (Or.inr (Or.inr rfl))
    exact ⟨s_al_c d1 hn r1, by rw [r2]; exact d2, by rw [r1]; exact d3, by rw [r1, p1]; exact d4, by rw [r1, q1]; exact d5⟩
  · obtain ⟨b1, b2, -⟩ := c (by omega)
    obtain ⟨p1, -⟩ := X _ (by omega) b1 (Or.inl rfl)
    obtain ⟨q1, -⟩ := X _ (by omega) b2 (Or.inr (Or.inl rfl))
    rw [p1, q1]
    exact f z
theorem s_we_c {T : fT} {S S' : sT} {e : Nat} (h : s_we T S e) (h4 : S'.1 4 e = S.1 4 e ∧ S'.1 5 e = S.1 5 e ∧ S'.1 6 e = S.1 6 e ∧ S'.1 7 e = S.1 7 e) (hn : S.2.1 ≤ S'.2.1) (hc : S.2.2.2 ≤ S'.2.2.2)
    (hs : 0 ≤ S.1 4 e → S'.1 0 (S.1 5 e).toNat = S.1 0 (S.1 5 e).toNat ∧ (S.1 0 (S.1 5 e).toNat = 0 → S'.1 1 (S.1 5 e).toNat = S.1 1 (S.1 5 e).toNat ∧ S'.1 2 (S.1 5 e).toNat = S.1 2 (S.1 5 e).toNat) ∧ S'.1 3 (S.1 5 e).toNat = S.1 3 (S.1 5 e).toNat)
    (hu : 0 ≤ S.1 4 e → 0 ≤ S.1 6 e → S'.1 0 (S.1 6 e).toNat = S.1 0 (S.1 6 e).toNat ∧ (S.1 1 (S.1 6 e).toNat = (e : Int) → S'.1 1 (S.1 6 e).toNat = (e : Int)) ∧ (S.1 2 (S.1 6 e).toNat = (e : Int) → S'.1 2 (S.1 6 e).toNat = (e : Int)))
    (hm : 0 ≤ S.1 4 e → 0 ≤ S.1 7 e → S'.1 8 (S.1 7 e).toNat = S.1 8 (S.1 7 e).toNat) : s_we T S' e := by
  obtain ⟨e4, e5, e6, e7⟩ := h4
  obtain ⟨a, b, c, d, f⟩ := h
  unfold s_we
  rw [e4, e5, e6, e7]
  refine ⟨a, ⟨b.1, by omega⟩, ⟨c.1, by omega⟩, ⟨d.1, by omega⟩, fun z => ?_⟩
  obtain ⟨f1, f2, f3, f4, f5⟩ := f z
  obtain ⟨s0, s12, s3⟩ := hs z
  rw [s0, s3]
  refine ⟨f1, fun y => ?_, f3, fun y => ?_, fun y => ?_⟩
  · obtain ⟨s1, s2⟩ := s12 y
    rw [s1, s2]
    exact f2 y
  · obtain ⟨u0, u1, u2⟩ := hu z y
    rw [u0]
    refine ⟨(f4 y).1, ?_⟩
    rcases (f4 y).2 with w | w
    · exact Or.inl (u1 w)
    · exact Or.inr (u2 w)
  · rw [hm z y]
    exact f5 y
/-- the tables of formulas may grow -/
theorem s_ok_T {T T' : fT} {S : sT} (h : s_ok T S) (hn : T.2 ≤ T'.2) (h1 : ∀ a g, a ≠ 3 → g < T.2 → T'.1 a g = T.1 a g) (h2 : ∀ g, g < T.2 → 0 ≤ T.1 3 g → T'.1 3 g = T.1 3 g) : s_ok T' S := by
  obtain ⟨hb, hl, he, hc, c1, c2⟩ := h
  have ht : ∀ x : Int, s_al S x → (S.1 4 x.toNat).toNat < T.2 ∧ 0 ≤ S.1 4 x.toNat := fun x hx => by
    have := (he x.toNat (by have := hx.1; have := hx.2.1; omega)).1
    have := hx.2.2
    omega
  refine ⟨hb, fun l hll => ?_, fun e hee => ?_, hc, c1, c2⟩
  · obtain ⟨a, b, c, d, f⟩ := hl l hll
    refine ⟨a, fun z => ?_, c, fun z => ?_, fun z => ?_⟩
    · obtain ⟨b1, b2, b3, b4, b5, b6, b7⟩ := b z
      refine ⟨b1, b2, b3, b4, b5, b6, ?_⟩
      rw [h2 _ (ht _ b1).1 (by rw [b7]; exact (ht _ b2).2)]
      exact b7
    · obtain ⟨d1, d2, d3, d4, d5⟩ := d z
      have q := (ht _ d1).1
      rw [h1 0 _ (by omega) q, h1 1 _ (by omega) q, h1 2 _ (by omega) q]
      exact ⟨d1, d2, d3, d4, d5⟩
    · obtain ⟨b1, b2, -⟩ := c (by omega)
      obtain ⟨f1, f2⟩ := f z
      refine ⟨f1, ?_⟩
      rw [h2 _ (ht _ b1).1 (by rw [f2]; exact (ht _ b2).2)]
      exact f2
  · obtain ⟨a, b, c, d, f⟩ := he e hee
    exact ⟨⟨a.1, by omega⟩, b, c, d, f⟩
theorem cn_ct_add (f : Nat → Int) (k x : Int) (n : Nat) : cn_ct (sn_up f n x) k (n + 1) = cn_ct f k n + (if 0 ≤ x ∧ (k < 0 ∨ x = k) then 1 else 0) := by
  rw [cn_ct_s, sn_up_at, cn_ct_ext (f := sn_up f n x) (g := f) k n (fun l hl => sn_up_ne _ (by omega))]
/-- an axiom -/
def s_ax (S : sT) (f d : Int) : sT := (fun a => match a with
  | 0 => sn_up (S.1 0) S.2.1 0
  | 1 => sn_up (S.1 1) S.2.1 (S.2.2.1 : Int)
  | 2 => sn_up (S.1 2) S.2.1 ((S.2.2.1 : Int) + 1)
  | 3 => sn_up (S.1 3) S.2.1 (-1)
  | 4 => sn_up (sn_up (S.1 4) S.2.2.1 f) (S.2.2.1 + 1) d
  | 5 => sn_up (sn_up (S.1 5) S.2.2.1 (S.2.1 : Int)) (S.2.2.1 + 1) (S.2.1 : Int)
  | 6 => sn_up (sn_up (S.1 6) S.2.2.1 (-1)) (S.2.2.1 + 1) (-1)
  | 7 => sn_up (sn_up (S.1 7) S.2.2.1 (-1)) (S.2.2.1 + 1) (-1)
  | a + 8 => S.1 (a + 8), S.2.1 + 1, S.2.2.1 + 2, S.2.2.2)
theorem up2_o {p : Nat → Int} {a b g : Nat} {x y : Int} (h1 : g ≠ a) (h2 : g ≠ b) : sn_up (sn_up p a x) b y g = p g := by rw [sn_up_ne _ h2, sn_up_ne _ h1]
theorem up2_1 {p : Nat → Int} {a b : Nat} {x y : Int} (h2 : a ≠ b) : sn_up (sn_up p a x) b y a = x := by rw [sn_up_ne _ h2, sn_up_at]
theorem s_ax_ok {T : fT} {S : sT} {f d : Int} (h : s_ok T S) (h1 : S.2.1 < 60) (h2 : S.2.2.1 + 2 ≤ 100) (h3 : cn_ct (S.1 0) (-1) S.2.1 < 24) (hf : 0 ≤ f ∧ f < (T.2 : Int)) (hd : 0 ≤ d ∧ d < (T.2 : Int)) (hfd : T.1 3 f.toNat = d) : s_ok T (s_ax S f d) := by
  obtain ⟨⟨b1, b2, b3⟩, hl, he, hc, c1, c2⟩ := h
  have r0 : ∀ l, l < S.2.1 → (s_ax S f d).1 0 l = S.1 0 l ∧ (s_ax S f d).1 1 l = S.1 1 l ∧ (s_ax S f d).1 2 l = S.1 2 l ∧ (s_ax S f d).1 3 l = S.1 3 l := fun l hl => ⟨sn_up_ne _ (by omega), sn_up_ne _ (by omega), sn_up_ne _ (by omega), sn_up_ne _ (by omega)⟩
  have r4 : ∀ e, e < S.2.2.1 → (s_ax S f d).1 4 e = S.1 4 e ∧ (s_ax S f d).1 5 e = S.1 5 e ∧ (s_ax S f d).1 6 e = S.1 6 e ∧ (s_ax S f d).1 7 e = S.1 7 e := fun e he => ⟨up2_o (by omega) (by omega), up2_o (by omega) (by omega), up2_o (by omega) (by omega), up2_o (by omega) (by omega)⟩
  have t0 : (s_ax S f d).1 0 S.2.1 = 0 := sn_up_at _ _ _
  have t1 : (s_ax S f d).1 1 S.2.1 = (S.2.2.1 : Int) := sn_up_at _ _ _
  have t2 : (s_ax S f d).1 2 S.2.1 = (S.2.2.1 : Int) + 1 := sn_up_at _ _ _
  have t3 : (s_ax S f d).1 3 S.2.1 = -1 := sn_up_at _ _ _
  have a4 : (s_ax S f d).1 4 S.2.2.1 = f := up2_1 (by omega)
  have a5 : (s_ax S f d).1 5 S.2.2.1 = (S.2.1 : Int) := up2_1 (by omega)
  have a6 : (s_ax S f d).1 6 S.2.2.1 = -1 := up2_1 (by omega)
  have a7 : (s_ax S f d).1 7 S.2.2.1 = -1 := up2_1 (by omega)
  have z4 : (s_ax S f d).1 4 (S.2.2.1 + 1) = d := sn_up_at _ _ _
  have z5 : (s_ax S f d).1 5 (S.2.2.1 + 1) = (S.2.1 : Int) := sn_up_at _ _ _
  have z6 : (s_ax S f d).1 6 (S.2.2.1 + 1) = -1 := sn_up_at _ _ _
  have z7 : (s_ax S f d).1 7 (S.2.2.1 + 1) = -1 := sn_up_at _ _ _
  have n1 : (s_ax S f d).2.1 = S.2.1 + 1 := rfl
  have n2 : (s_ax S f d).2.2.1 = S.2.2.1 + 2 := rfl
  have n3 : (s_ax S f d).2.2.2 = S.2.2.2 := rfl
  have r8 : (s_ax S f d).1 8 = S.1 8 := rfl
  have cc : ∀ k, cn_ct ((s_ax S f d).1 0) k (S.2.1 + 1) = cn_ct (S.1 0) k S.2.1 + (if (0 : Int) ≤ 0 ∧ (k < 0 ∨ 0 = k) then 1 else 0) := fun k => cn_ct_add _ _ _ _
  have tn : ∀ x : Int, x = (S.2.2.1 : Int) + 1 → x.toNat = S.2.2.1 + 1 := fun x hx => by omega
  have tn0 : ((S.2.2.1 : Int)).toNat = S.2.2.1 := rfl
  have tl : ((S.2.1 : Int)).toNat = S.2.1 := rfl
  generalize s_ax S f d = S' at *
  refine ⟨⟨by omega, by omega, by omega⟩, fun l hll => ?_, fun e hee => ?_, fun c hcc => ?_, ?_, ?_⟩
  · by_cases e : l = S.2.1
    · subst e
      refine ⟨by omega, fun _ => ?_, fun z => by omega, fun z => by omega, fun z => by omega⟩
      rw [t1, t2, tn _ rfl, tn0, a5, z5, t3, a4, z4]
      exact ⟨⟨by omega, by omega, by rw [tn0, a4]; omega⟩, ⟨by omega, by omega, by rw [tn _ rfl, z4]; omega⟩, by omega, rfl, rfl, rfl, hfd⟩
    · refine s_wl_c (hl l (by omega)) (r0 l (by omega)) (by omega) (fun _ e h1 h2 _ => ⟨(r4 e h1).1, (r4 e h1).2.1, fun z => by rw [(r4 e h1).2.2.1]; exact z⟩)
  · by_cases e1 : e < S.2.2.1
    · have w := he e e1
      obtain ⟨-, w6, w7, w5, -⟩ := id w
      refine s_we_c w (r4 e e1) (by omega) (by omega) (fun _ => ?_) (fun _ z => ?_) (fun _ _ => by rw [r8])
      · have q := r0 (S.1 5 e).toNat (by omega)
        exact ⟨q.1, fun _ => ⟨q.2.1, q.2.2.1⟩, q.2.2.2⟩
      · have q := r0 (S.1 6 e).toNat (by omega)
        rw [q.1, q.2.1, q.2.2.1]
        exact ⟨rfl, id, id⟩
    · by_cases e2 : e = S.2.2.1
      · subst e2
        unfold s_we
        rw [a4, a5, a6, a7, tl, t0, t1]
        exact ⟨by omega, by omega, by omega, by omega, fun _ => ⟨Or.inl rfl, fun _ => Or.inl rfl, fun z => by omega, fun z => by omega, fun z => by omega⟩⟩
      · have e2 : e = S.2.2.1 + 1 := by omega
        subst e2
        unfold s_we
        rw [z4, z5, z6, z7, tl, t0, t2]
        exact ⟨by omega, by omega, by omega, by omega, fun _ => ⟨Or.inl rfl, fun _ => Or.inr rfl, fun z => by omega, fun z => by omega, fun z => by omega⟩⟩
  · have q := hc c (by omega)
    unfold s_wc at q ⊢
    rw [r8]
    have hx : (S.1 8 c).toNat < S.2.2.1 := by have := q.1.1; have := q.1.2.1; omega
    exact ⟨s_al_c q.1 (by omega) (r4 _ hx).1, by rw [(r4 _ hx).2.2.2]; exact q.2⟩
  · rw [n1, cc, if_pos (by omega)]; omega
  · rw [n1, cc, if_neg (by omega)]; omega
/-- a free edge -/
def s_fr (S : sT) (e : Int) : Prop := s_al S e ∧ S.1 6 e.toNat = -1 ∧ S.1 7 e.toNat = -1
/-- a tensor or par link -/
def s_jn (S : sT) (k l r f : Int) : sT := (fun a => match a with
  | 0 => sn_up (S.1 0) S.2.1 k
  | 1 => sn_up (S.1 1) S.2.1 l
  | 2 => sn_up (S.1 2) S.2.1 r
  | 3 => sn_up (S.1 3) S.2.1 (S.2.2.1 : Int)
  | 4 => sn_up (S.1 4) S.2.2.1 f
  | 5 => sn_up (S.1 5) S.2.2.1 (S.2.1 : Int)
  | 6 => sn_up (sn_up (sn_up (S.1 6) l.toNat (S.2.1 : Int)) r.toNat (S.2.1 : Int)) S.2.2.1 (-1)
  | 7 => sn_up (S.1 7) S.2.2.1 (-1)
  | a + 8 => S.1 (a + 8), S.2.1 + 1, S.2.2.1 + 1, S.2.2.2)
/-- an edge that becomes a premise -/
theorem s_we_u {T : fT} {S S' : sT} {e n : Nat} (h : s_we T S e) (h0 : 0 ≤ S.1 4 e) (h6 : S.1 6 e = -1) (h7 : S.1 7 e = -1) (h4 : S'.1 4 e = S.1 4 e ∧ S'.1 5 e = S.1 5 e ∧ S'.1 6 e = (n : Int) ∧ S'.1 7 e = S.1 7 e) (hn : S.2.1 ≤ S'.2.1) (hnn : n < S'.2.1) (hc : S.2.2.2 ≤ S'.2.2.2)
    (hs : S'.1 0 (S.1 5 e).toNat = S.1 0 (S.1 5 e).toNat ∧ S'.1 1 (S.1 5 e).toNat = S.1 1 (S.1 5 e).toNat ∧ S'.1 2 (S.1 5 e).toNat = S.1 2 (S.1 5 e).toNat ∧ S'.1 3 (S.1 5 e).toNat = S.1 3 (S.1 5 e).toNat)
    (hk : 1 ≤ S'.1 0 n) (hp : S'.1 1 n = (e : Int) ∨ S'.1 2 n = (e : Int)) : s_we T S' e := by
  obtain ⟨e4, e5, e6, e7⟩ := h4
  obtain ⟨a, b, c, d, f⟩ := h
  obtain ⟨s0, s1, s2, s3⟩ := hs
  have tn : ((n : Int)).toNat = n := rfl
  unfold s_we
  rw [e4, e5, e6, e7, s0, s1, s2, s3, tn]
  obtain ⟨f1, f2, f3, f4, f5⟩ := f h0
  exact ⟨a, ⟨by omega, by omega⟩, ⟨c.1, by omega⟩, ⟨d.1, by omega⟩, fun _ => ⟨f1, f2, f3, fun _ => ⟨hk, hp⟩, fun z => by omega⟩⟩
theorem s_jn_ok {T : fT} {S : sT} {k l r f : Int} (h : s_ok T S) (h1 : S.2.1 < 60) (h2 : S.2.2.1 + 1 ≤ 100) (h3 : cn_ct (S.1 0) (-1) S.2.1 < 24) (hk : k = 1 ∨ k = 2) (h8 : k = 2 → cn_ct (S.1 0) 2 S.2.1 < 8) (hl' : s_fr S l) (hr' : s_fr S r) (hlr : l ≠ r) (hf : 0 ≤ f ∧ f < (T.2 : Int)) (hf0 : T.1 0 f.toNat = k) (hf1 : T.1 1 f.toNat = S.1 4 l.toNat) (hf2 : T.1 2 f.toNat = S.1 4 r.toNat) : s_ok T (s_jn S k l r f) := by
  obtain ⟨⟨b1, b2, b3⟩, hl, he, hc, c1, c2⟩ := h
  obtain ⟨⟨l0, l1, l2⟩, l3, l4⟩ := hl'
  obtain ⟨⟨r0, r1, r2⟩, r3, r4⟩ := hr'
  have q0 : ∀ l', l' < S.2.1 → (s_jn S k l r f).1 0 l' = S.1 0 l' ∧ (s_jn S k l r f).1 1 l' = S.1 1 l' ∧ (s_jn S k l r f).1 2 l' = S.1 2 l' ∧ (s_jn S k l r f).1 3 l' = S.1 3 l' := fun l' hl => ⟨sn_up_ne _ (by omega), sn_up_ne _ (by omega), sn_up_ne _ (by omega), sn_up_ne _ (by omega)⟩
  have q4 : ∀ e, e < S.2.2.1 → (s_jn S k l r f).1 4 e = S.1 4 e ∧ (s_jn S k l r f).1 5 e = S.1 5 e ∧ (s_jn S k l r f).1 7 e = S.1 7 e := fun e he => ⟨sn_up_ne _ (by omega), sn_up_ne _ (by omega), sn_up_ne _ (by omega)⟩
  have q6 : ∀ e, e < S.2.2.1 → e ≠ l.toNat → e ≠ r.toNat → (s_jn S k l r f).1 6 e = S.1 6 e := fun e he n1 n2 => by
    show sn_up (sn_up (sn_up (S.1 6) l.toNat (S.2.1 : Int)) r.toNat (S.2.1 : Int)) S.2.2.1 (-1) e = _
    rw [sn_up_ne _ (by omega), sn_up_ne _ n2, sn_up_ne _ n1]
  have q6l : (s_jn S k l r f).1 6 l.toNat = (S.2.1 : Int) := by
    show sn_up (sn_up (sn_up (S.1 6) l.toNat (S.2.1 : Int)) r.toNat (S.2.1 : Int)) S.2.2.1 (-1) l.toNat = _
    rw [sn_up_ne _ (by omega), sn_up_ne _ (by omega), sn_up_at]
  have q6r : (s_jn S k l r f).1 6 r.toNat = (S.2.1 : Int) := by
    show sn_up (sn_up (sn_up (S.1 6) l.toNat (S.2.1 : Int)) r.toNat (S.2.1 : Int)) S.2.2.1 (-1) r.toNat = _
    rw [sn_up_ne _ (by omega), sn_up_at]
  have t0 : (s_jn S k l r f).1 0 S.2.1 = k := sn_up_at _ _ _
  have t1 : (s_jn S k l r f).1 1 S.2.1 = l := sn_up_at _ _ _
  have t2 : (s_jn S k l r f).1 2 S.2.1 = r := sn_up_at _ _ _
  have t3 : (s_jn S k l r f).1 3 S.2.1 = (S.2.2.1 : Int) := sn_up_at _ _ _
  have a4 : (s_jn S k l r f).1 4 S.2.2.1 = f := sn_up_at _ _ _
  have a5 : (s_jn S k l r f).1 5 S.2.2.1 = (S.2.1 : Int) := sn_up_at _ _ _
  have a6 : (s_jn S k l r f).1 6 S.2.2.1 = -1 := sn_up_at _ _ _
  have a7 : (s_jn S k l r f).1 7 S.2.2.1 = -1 := sn_up_at _ _ _
  have n1 : (s_jn S k l r f).2.1 = S.2.1 + 1 := rfl
  have n2 : (s_jn S k l r f).2.2.1 = S.2.2.1 + 1 := rfl
  have n3 : (s_jn S k l r f).2.2.2 = S.2.2.2 := rfl
  have r8 : (s_jn S k l r f).1 8 = S.1 8 := rfl
  have cc : ∀ x, cn_ct ((s_jn S k l r f).1 0) x (S.2.1 + 1) = cn_ct (S.1 0) x S.2.1 + (if (0 : Int) ≤ k ∧ (x < 0 ∨ k = x) then 1 else 0) := fun x => cn_ct_add _ _ _ _
  have tn0 : ((S.2.2.1 : Int)).toNat = S.2.2.1 := rfl
  have tl : ((S.2.1 : Int)).toNat = S.2.1 := rfl
  generalize s_jn S k l r f = S' at *
  refine ⟨⟨by omega, by omega, by omega⟩, fun l' hll => ?_, fun e hee => ?_, fun c hcc => ?_, ?_, ?_⟩
  · by_cases e : l' = S.2.1
    · subst e
      have al : s_al S' l := ⟨l0, by omega, by rw [(q4 _ (by omega)).1]; exact l2⟩
      have ar : s_al S' r := ⟨r0, by omega, by rw [(q4 _ (by omega)).1]; exact r2⟩
      refine ⟨by omega, fun z => by omega, fun _ => ?_, fun _ => ?_, fun z => by omega⟩
      · rw [t1, t2]
        exact ⟨al, ar, hlr, q6l, q6r⟩
      · rw [t1, t2, t3, t0, tn0, a5, a4, (q4 l.toNat (by omega)).1, (q4 r.toNat (by omega)).1]
        exact ⟨⟨by omega, by omega, by rw [tn0, a4]; omega⟩, rfl, hf0, hf1, hf2⟩
    · refine s_wl_c (hl l' (by omega)) (q0 l' (by omega)) (by omega) (fun _ e h1 h2 _ => ⟨(q4 e h1).1, (q4 e h1).2.1, fun z => ?_⟩)
      rw [q6 e h1 (fun y => by rw [y, l3] at z; omega) (fun y => by rw [y, r3] at z; omega)]
      exact z
  · by_cases e1 : e < S.2.2.1
    · have w := he e e1
      obtain ⟨-, w6, w7, w5, -⟩ := id w
      have qs := q0 (S.1 5 e).toNat (by omega)
      by_cases el : e = l.toNat
      · rw [el] at w qs ⊢
        exact s_we_u (n := S.2.1) w l2 l3 l4 ⟨(q4 _ (by omega)).1, (q4 _ (by omega)).2.1, q6l, (q4 _ (by omega)).2.2⟩ (by omega) (by omega) (by omega) qs (by omega) (Or.inl (by omega))
      · by_cases er : e = r.toNat
        · rw [er] at w qs ⊢
          exact s_we_u (n := S.2.1) w r2 r3 r4 ⟨(q4 _ (by omega)).1, (q4 _ (by omega)).2.1, q6r, (q4 _ (by omega)).2.2⟩ (by omega) (by omega) (by omega) qs (by omega) (Or.inr (by omega))
        · refine s_we_c w ⟨(q4 e e1).1, (q4 e e1).2.1, q6 e e1 el er, (q4 e e1).2.2⟩ (by omega) (by omega) (fun _ => ⟨qs.1, fun _ => ⟨qs.2.1, qs.2.2.1⟩, qs.2.2.2⟩) (fun _ z => ?_) (fun _ _ => by rw [r8])
          have q := q0 (S.1 6 e).toNat (by omega)
          rw [q.1, q.2.1, q.2.2.1]
          exact ⟨rfl, id, id⟩
    · have e2 : e = S.2.2.1 := by omega
      subst e2
      unfold s_we
      rw [a4, a5, a6, a7, tl, t0, t3]
      exact ⟨by omega, by omega, by omega, by omega, fun _ => ⟨by omega, fun z => by omega, fun _ => rfl, fun z => by omega, fun z => by omega⟩⟩
  · have q := hc c (by omega)
    unfold s_wc at q ⊢
    rw [r8]
    have hx : (S.1 8 c).toNat < S.2.2.1 := by have := q.1.1; have := q.1.2.1; omega
    exact ⟨s_al_c q.1 (by omega) (q4 _ hx).1, by rw [(q4 _ hx).2.2]; exact q.2⟩
  · rw [n1, cc, if_pos (by omega)]; omega
  · rw [n1, cc]
    split
    · have := h8 (by omega); omega
    · omega
/-- a cut link -/
def s_ct (S : sT) (l r : Int) : sT := (fun a => match a with
  | 0 => sn_up (S.1 0) S.2.1 3
  | 1 => sn_up (S.1 1) S.2.1 l
  | 2 => sn_up (S.1 2) S.2.1 r
  | 3 => sn_up (S.1 3) S.2.1 (-1)
  | 4 => S.1 4
  | 5 => S.1 5
  | 6 => sn_up (sn_up (S.1 6) l.toNat (S.2.1 : Int)) r.toNat (S.2.1 : Int)
  | a + 7 => S.1 (a + 7), S.2.1 + 1, S.2.2.1, S.2.2.2)
theorem s_ct_ok {T : fT} {S : sT} {l r : Int} (h : s_ok T S) (h1 : S.2.1 < 60) (h3 : cn_ct (S.1 0) (-1) S.2.1 < 24) (hl' : s_fr S l) (hr' : s_fr S r) (hlr : l ≠ r) (hd : T.1 3 (S.1 4 l.toNat).toNat = S.1 4 r.toNat) : s_ok T (s_ct S l r) := by
  obtain ⟨⟨b1, b2, b3⟩, hl, he, hc, c1, c2⟩ := h
  obtain ⟨⟨l0, l1, l2⟩, l3, l4⟩ := hl'
  obtain ⟨⟨r0, r1, r2⟩, r3, r4⟩ := hr'
  have q0 : ∀ l', l' < S.2.1 → (s_ct S l r).1 0 l' = S.1 0 l' ∧ (s_ct S l r).1 1 l' = S.1 1 l' ∧ (s_ct S l r).1 2 l' = S.1 2 l' ∧ (s_ct S l r).1 3 l' = S.1 3 l' := fun l' hl => ⟨sn_up_ne _ (by omega), sn_up_ne _ (by omega), sn_up_ne _ (by omega), sn_up_ne _ (by omega)⟩
  have q4 : ∀ e, (s_ct S l r).1 4 e = S.1 4 e ∧ (s_ct S l r).1 5 e = S.1 5 e ∧ (s_ct S l r).1 7 e = S.1 7 e := fun e => ⟨rfl, rfl, rfl⟩
  have q6 : ∀ e, e ≠ l.toNat → e ≠ r.toNat → (s_ct S l r).1 6 e = S.1 6 e := fun e n1 n2 => up2_o n1 n2
  have q6l : (s_ct S l r).1 6 l.toNat = (S.2.1 : Int) := up2_1 (by omega)
  have q6r : (s_ct S l r).1 6 r.toNat = (S.2.1 : Int) := sn_up_at _ _ _
  have t0 : (s_ct S l r).1 0 S.2.1 = 3 := sn_up_at _ _ _
  have t1 : (s_ct S l r).1 1 S.2.1 = l := sn_up_at _ _ _
  have t2 : (s_ct S l r).1 2 S.2.1 = r := sn_up_at _ _ _
  have t3 : (s_ct S l r).1 3 S.2.1 = -1 := sn_up_at _ _ _
  have n1 : (s_ct S l r).2.1 = S.2.1 + 1 := rfl
  have n2 : (s_ct S l r).2.2.1 = S.2.2.1 := rfl
  have n3 : (s_ct S l r).2.2.2 = S.2.2.2 := rfl
  have r8 : (s_ct S l r).1 8 = S.1 8 := rfl
  have cc : ∀ x, cn_ct ((s_ct S l r).1 0) x (S.2.1 + 1) = cn_ct (S.1 0) x S.2.1 + (if (0 : Int) ≤ 3 ∧ (x < 0 ∨ 3 = x) then 1 else 0) := fun x => cn_ct_add _ _ _ _
  generalize s_ct S l r = S' at *
  refine ⟨⟨by omega, by omega, by omega⟩, fun l' hll => ?_, fun e hee => ?_, fun c hcc => ?_, ?_, ?_⟩
  · by_cases e : l' = S.2.1
    · subst e
      have al : s_al S' l := ⟨l0, by omega, by rw [(q4 _).1]; exact l2⟩
      have ar : s_al S' r := ⟨r0, by omega, by rw [(q4 _).1]; exact r2⟩
      refine ⟨by omega, fun z => by omega, fun _ => ?_, fun z => by omega, fun _ => ?_⟩
      · rw [t1, t2]
        exact ⟨al, ar, hlr, q6l, q6r⟩
      · rw [t1, t2, t3, (q4 l.toNat).1, (q4 r.toNat).1]
        exact ⟨rfl, hd⟩
    · refine s_wl_c (hl l' (by omega)) (q0 l' (by omega)) (by omega) (fun _ e h1 h2 _ => ⟨(q4 e).1, (q4 e).2.1, fun z => ?_⟩)
      rw [q6 e (fun y => by rw [y, l3] at z; omega) (fun y => by rw [y, r3] at z; omega)]
      exact z
  · have w := he e (by omega)
    obtain ⟨-, w6, w7, w5, -⟩ := id w
    have qs := q0 (S.1 5 e).toNat (by omega)
    by_cases el : e = l.toNat
    · rw [el] at w qs ⊢
      exact s_we_u (n := S.2.1) w l2 l3 l4 ⟨(q4 _).1, (q4 _).2.1, q6l, (q4 _).2.2⟩ (by omega) (by omega) (by omega) qs (by omega) (Or.inl (by omega))
    · by_cases er : e = r.toNat
      · rw [er] at w qs ⊢
        exact s_we_u (n := S.2.1) w r2 r3 r4 ⟨(q4 _).1, (q4 _).2.1, q6r, (q4 _).2.2⟩ (by omega) (by omega) (by omega) qs (by omega) (Or.inr (by omega))
      · refine s_we_c w ⟨(q4 e).1, (q4 e).2.1, q6 e el er, (q4 e).2.2⟩ (by omega) (by omega) (fun _ => ⟨qs.1, fun _ => ⟨qs.2.1, qs.2.2.1⟩, qs.2.2.2⟩) (fun _ z => ?_) (fun _ _ => by rw [r8])
        have q := q0 (S.1 6 e).toNat (by omega)
        rw [q.1, q.2.1, q.2.2.1]
        exact ⟨rfl, id, id⟩
  · have q := hc c (by omega)
    unfold s_wc at q ⊢
    rw [r8]
    exact ⟨s_al_c q.1 (by omega) (q4 _).1, by rw [(q4 _).2.2]; exact q.2⟩
  · rw [n1, cc, if_pos (by omega)]; omega
  · rw [n1, cc, if_neg (by omega)]; omega
/-- a conclusion gets its name -/
def s_nm (S : sT) (e : Int) : sT := (fun a => match a with
  | 0 => S.1 0
  | 1 => S.1 1
  | 2 => S.1 2
  | 3 => S.1 3
  | 4 => S.1 4
  | 5 => S.1 5
  | 6 => S.1 6
  | 7 => sn_up (S.1 7) e.toNat (S.2.2.2 : Int)
  | 8 => sn_up (S.1 8) S.2.2.2 e
  | a + 9 => S.1 (a + 9), S.2.1, S.2.2.1, S.2.2.2 + 1)
/-- different numbers below m, n of them -/
theorem pg : ∀ (n m : Nat) (f : Nat → Nat), (∀ i, i < n → f i < m) → (∀ i j, i < n → j < n → f i = f j → i = j) → n ≤ m := by
  intro n
  induction n with
  | zero => intro m f _ _; omega
  | succ n ih =>
    intro m f h1 h2
    have hv := h1 n (by omega)
    have key : n ≤ m - 1 := by
      refine ih (m - 1) (fun i => if f i = m - 1 then f n else f i) (fun i hi => ?_) (fun i j hi hj e => ?_)
      · have a := h1 i (by omega)
        have b : f i = f n → i = n := h2 i n (by omega) (by omega)
        show (if f i = m - 1 then f n else f i) < m - 1
        split
        · omega
        · omega
      · have e : (if f i = m - 1 then f n else f i) = (if f j = m - 1 then f n else f j) := e
        have bi : f i = f n → i = n := h2 i n (by omega) (by omega)
        have bj : f j = f n → j = n := h2 j n (by omega) (by omega)
        have bij : f i = f j → i = j := h2 i j (by omega) (by omega)
        split at e <;> split at e <;> omega
    omega
theorem pig {f : Nat → Nat} {n m x : Nat} (h1 : ∀ i, i < n → f i < m) (h2 : ∀ i j, i < n → j < n → f i = f j → i = j) (hx : x < m) (h3 : ∀ i, i < n → f i ≠ x) : n + 1 ≤ m := by
  refine pg (n + 1) m (fun i => if i = n then x else f i) (fun i hi => ?_) (fun i j hi hj e => ?_)
  · show (if i = n then x else f i) < m
    split
    · exact hx
    · exact h1 i (by omega)
  · have e : (if i = n then x else f i) = (if j = n then x else f j) := e
    split at e <;> split at e
    · omega
    · exact absurd e.symm (h3 j (by omega))
    · exact absurd e (h3 i (by omega))
    · exact h2 i j (by omega) (by omega) e
theorem s_nm_ok {T : fT} {S : sT} {e : Int} (h : s_ok T S) (hf : s_fr S e) : s_ok T (s_nm S e) ∧ S.2.2.2 < S.2.2.1 := by
  obtain ⟨⟨b1, b2, b3⟩, hl, he, hc, c1, c2⟩ := h
  obtain ⟨⟨e0, e1, e2⟩, e3, e4⟩ := hf
  have hlt : S.2.2.2 + 1 ≤ S.2.2.1 := by
    refine pig (f := fun c => (S.1 8 c).toNat) (x := e.toNat) (fun c hcc => ?_) (fun i j hi hj z => ?_) (by omega) (fun c hcc z => ?_)
    · have := (hc c hcc).1.1; have := (hc c hcc).1.2.1
      show (S.1 8 c).toNat < _
      omega
    · have z : (S.1 8 i).toNat = (S.1 8 j).toNat := z
      have p := (hc i hi).2
      have q := (hc j hj).2
      rw [z, q] at p
      omega
    · have z : (S.1 8 c).toNat = e.toNat := z
      have p := (hc c hcc).2
      rw [z, e4] at p
      omega
  have q0 : ∀ l, (s_nm S e).1 0 l = S.1 0 l ∧ (s_nm S e).1 1 l = S.1 1 l ∧ (s_nm S e).1 2 l = S.1 2 l ∧ (s_nm S e).1 3 l = S.1 3 l := fun l => ⟨rfl, rfl, rfl, rfl⟩
  have q4 : ∀ x, (s_nm S e).1 4 x = S.1 4 x ∧ (s_nm S e).1 5 x = S.1 5 x ∧ (s_nm S e).1 6 x = S.1 6 x := fun x => ⟨rfl, rfl, rfl⟩
  have q7 : ∀ x, x ≠ e.toNat → (s_nm S e).1 7 x = S.1 7 x := fun x hx => sn_up_ne _ hx
  have q7e : (s_nm S e).1 7 e.toNat = (S.2.2.2 : Int) := sn_up_at _ _ _
  have q8 : ∀ c, c ≠ S.2.2.2 → (s_nm S e).1 8 c = S.1 8 c := fun x hx => sn_up_ne _ hx
  have q8n : (s_nm S e).1 8 S.2.2.2 = e := sn_up_at _ _ _
  have n1 : (s_nm S e).2.1 = S.2.1 := rfl
  have n2 : (s_nm S e).2.2.1 = S.2.2.1 := rfl
  have n3 : (s_nm S e).2.2.2 = S.2.2.2 + 1 := rfl
  have tn : ((S.2.2.2 : Int)).toNat = S.2.2.2 := rfl
  have cc : ∀ k, cn_ct ((s_nm S e).1 0) k S.2.1 = cn_ct (S.1 0) k S.2.1 := fun _ => rfl
  refine ⟨?_, by omega⟩
  generalize s_nm S e = S' at *
  refine ⟨⟨by omega, by omega, by omega⟩, fun l hll => ?_, fun x hx => ?_, fun c hcc => ?_, by rw [n1, cc]; exact c1, by rw [n1, cc]; exact c2⟩
  · exact s_wl_c (hl l (by omega)) (q0 l) (by omega) (fun _ x _ _ _ => ⟨(q4 x).1, (q4 x).2.1, fun z => by rw [(q4 x).2.2]; exact z⟩)
  · have w := he x (by omega)
    by_cases ex : x = e.toNat
    · obtain ⟨a, b, c, d, f⟩ := w
      obtain ⟨f1, f2, f3, f4, f5⟩ := f (by rw [ex]; exact e2)
      unfold s_we
      rw [(q4 x).1, (q4 x).2.1, (q4 x).2.2, (q0 _).1, (q0 _).2.1, (q0 _).2.2.1, (q0 _).2.2.2, (q0 _).1, (q0 _).2.1, (q0 _).2.2.1]
      rw [ex] at a b d f1 f2 f3 f4 ⊢
      rw [q7e, tn, q8n, n1, n3]
      exact ⟨a, b, ⟨by clear f1 f2 f3 f4; omega, by clear f1 f2 f3 f4; omega⟩, d, fun _ => ⟨f1, f2, f3, f4, fun _ => ⟨e3, (Int.toNat_of_nonneg e0).symm⟩⟩⟩
    · have w7 := w.2.2.1
      refine s_we_c w ⟨(q4 x).1, (q4 x).2.1, (q4 x).2.2, q7 x ex⟩ (by omega) (by omega) (fun _ => ⟨(q0 _).1, fun _ => ⟨(q0 _).2.1, (q0 _).2.2.1⟩, (q0 _).2.2.2⟩) (fun _ _ => ?_) (fun _ z => q8 _ (by omega))
      rw [(q0 _).1, (q0 _).2.1, (q0 _).2.2.1]
      exact ⟨rfl, id, id⟩
  · unfold s_wc
    by_cases ec : c = S.2.2.2
    · subst ec
      rw [q8n, q7e]
      exact ⟨⟨e0, by omega, by rw [(q4 _).1]; exact e2⟩, rfl⟩
    · have q := hc c (by omega)
      rw [q8 c ec]
      refine ⟨s_al_c q.1 (by omega) (q4 _).1, ?_⟩
      rw [q7 _ (fun z => ?_)]
      · exact q.2
      · have := q.2
        rw [z, e4] at this
        omega
/-- nothing -/
def s_0 (S : sT) : sT := (S.1, 0, 0, 0)
theorem s_0_ok (T : fT) (S : sT) : s_ok T (s_0 S) := ⟨⟨by show 0 ≤ 60; omega, by show 0 ≤ 100; omega, by show 0 ≤ 100; omega⟩, fun l hl => absurd hl (Nat.not_lt_zero _), fun l hl => absurd hl (Nat.not_lt_zero _), fun l hl => absurd hl (Nat.not_lt_zero _), by show (0 : Int) ≤ 24; decide, by show (0 : Int) ≤ 8; decide⟩
def Box (p : Prop) : Prop := p
theorem box {p : Prop} (h : p) : Box p := h
theorem cn_ct_rm {f : Nat → Int} {l : Nat} (k : Int) (h0 : 0 ≤ f l) : ∀ n, l < n → cn_ct (sn_up f l (-1)) k n = cn_ct f k n - (if k < 0 ∨ f l = k then 1 else 0) := by
  intro n
  induction n with
  | zero => intro h; omega
  | succ n ih =>
    intro hl
    rw [cn_ct_s, cn_ct_s]
    by_cases e : l = n
    · subst e
      rw [sn_up_at, if_neg (by omega), cn_ct_ext (f := sn_up f l (-1)) (g := f) k l (fun j hj => sn_up_ne _ (by omega))]
      by_cases z : k < 0 ∨ f l = k
      · rw [if_pos z, if_pos ⟨h0, z⟩]; omega
      · rw [if_neg z, if_neg (fun y => z y.2)]; omega
    · rw [sn_up_ne _ (by omega : n ≠ l), ih (by omega)]
      omega
/-- a cut at an axiom -/
def s_sl (S : sT) (c a : Nat) (of other gone : Int) : sT := (fun x => match x with
  | 0 => sn_up (sn_up (S.1 0) a (-1)) c (-1)
  | 1 => if 0 ≤ S.1 6 gone.toNat ∧ S.1 1 (S.1 6 gone.toNat).toNat = gone then sn_up (S.1 1) (S.1 6 gone.toNat).toNat other else S.1 1
  | 2 => if 0 ≤ S.1 6 gone.toNat ∧ ¬ S.1 1 (S.1 6 gone.toNat).toNat = gone then sn_up (S.1 2) (S.1 6 gone.toNat).toNat other else S.1 2
  | 3 => S.1 3
  | 4 => sn_up (sn_up (S.1 4) of.toNat (-1)) gone.toNat (-1)
  | 5 => S.1 5
  | 6 => sn_up (S.1 6) other.toNat (S.1 6 gone.toNat)
  | 7 => sn_up (S.1 7) other.toNat (S.1 7 gone.toNat)
  | 8 => if 0 ≤ S.1 7 gone.toNat then sn_up (S.1 8) (S.1 7 gone.toNat).toNat other else S.1 8
  | x + 9 => S.1 (x + 9), S.2)
/-- where a cut meets an axiom: the edges, and what is known of them -/
def s_at (S : sT) (c a : Nat) (of other gone : Int) : Prop := c < S.2.1 ∧ S.1 0 c = 3 ∧ ((of = S.1 1 c ∧ other = S.1 2 c) ∨ (of = S.1 2 c ∧ other = S.1 1 c)) ∧ S.1 5 of.toNat = (a : Int) ∧ S.1 0 a = 0 ∧ ((S.1 1 a = of ∧ gone = S.1 2 a) ∨ (¬ S.1 1 a = of ∧ gone = S.1 1 a)) ∧ gone ≠ other
theorem s_at_f {T : fT} {S : sT} (hi : ∀ f : Nat, f < T.2 → 0 ≤ T.1 3 f → T.1 3 (T.1 3 f).toNat = (f : Int)) (h : s_ok T S) {c a : Nat} {of other gone : Int} (hp : s_at S c a of other gone) : a < S.2.1 ∧ a ≠ c ∧ (s_al S of ∧ s_al S other ∧ s_al S gone) ∧ (of ≠ other ∧ of ≠ gone) ∧ (S.1 6 of.toNat = (c : Int) ∧ S.1 6 other.toNat = (c : Int)) ∧ S.1 5 gone.toNat = (a : Int) ∧ S.1 4 other.toNat = S.1 4 gone.toNat ∧ S.1 6 gone.toNat ≠ (c : Int) := by
  obtain ⟨hc, hk, hoo, hfa, ha0, hgo, hne⟩ := hp
  replace hoo := box hoo
  replace hgo := box hgo
  obtain ⟨-, hl, he, -, -, -⟩ := h
  obtain ⟨a1, a2, a3, a4, a5⟩ := (hl c hc).2.2.1 (by omega)
  obtain ⟨-, hdc⟩ := (hl c hc).2.2.2.2 hk
  have alo : s_al S of := by rcases hoo with ⟨e, -⟩ | ⟨e, -⟩ <;> rw [e] <;> assumption
  have alt : s_al S other := by rcases hoo with ⟨-, e⟩ | ⟨-, e⟩ <;> rw [e] <;> assumption
  have uo : S.1 6 of.toNat = (c : Int) := by rcases hoo with ⟨e, -⟩ | ⟨e, -⟩ <;> rw [e] <;> assumption
  have ut : S.1 6 other.toNat = (c : Int) := by rcases hoo with ⟨-, e⟩ | ⟨-, e⟩ <;> rw [e] <;> assumption
  have noo : of ≠ other := by rcases hoo with ⟨e, e'⟩ | ⟨e, e'⟩ <;> rw [e, e'] <;> omega
  obtain ⟨o1, o2, o3⟩ := id alo
  have weo := box (he of.toNat (by omega))
  have haN : a < S.2.1 := by have := (id weo : s_we T S of.toNat).2.2.2.1; rw [hfa] at this; omega
  have eon : ((of.toNat : Nat) : Int) = of := by omega
  have tn : ((a : Int)).toNat = a := rfl
  have hor : Box (S.1 1 a = of ∨ S.1 2 a = of) := by
    have g2 := ((id weo : s_we T S of.toNat).2.2.2.2 o3).2.1
    rw [hfa, tn, eon] at g2
    exact g2 ha0
  obtain ⟨x1, x2, x3, x4, x5, x6, x7⟩ := (hl a haN).2.1 ha0
  have alg : s_al S gone := by rcases hgo with ⟨-, e⟩ | ⟨-, e⟩ <;> rw [e] <;> assumption
  have fg : S.1 5 gone.toNat = (a : Int) := by rcases hgo with ⟨-, e⟩ | ⟨-, e⟩ <;> rw [e] <;> assumption
  have nog : of ≠ gone := by
    rcases hgo with ⟨e, e'⟩ | ⟨e, e'⟩
    · rw [e', ← e]; exact x3
    · rw [e']; exact fun z => e z.symm
  have hty : ∀ x : Int, s_al S x → (S.1 4 x.toNat).toNat < T.2 ∧ (((S.1 4 x.toNat).toNat : Nat) : Int) = S.1 4 x.toNat := fun x hx => by
    have q := (he x.toNat (by have := hx.1; have := hx.2.1; omega)).1
    have := hx.2.2
    omega
  -- both are the dual of the same formula
  have dd : ∀ x y : Int, s_al S x → s_al S y → T.1 3 (S.1 4 x.toNat).toNat = S.1 4 y.toNat → T.1 3 (S.1 4 y.toNat).toNat = S.1 4 x.toNat := fun x y hx hy z => by
    have q := hi (S.1 4 x.toNat).toNat (hty x hx).1 (by rw [z]; exact hy.2.2)
    rw [z, (hty x hx).2] at q
    exact q
  have d1 : T.1 3 (S.1 4 of.toNat).toNat = S.1 4 other.toNat := by
    rcases hoo with ⟨e, e'⟩ | ⟨e, e'⟩
    · rw [e, e']; exact hdc
    · rw [e, e']; exact dd _ _ a1 a2 hdc
  have d2 : T.1 3 (S.1 4 of.toNat).toNat = S.1 4 gone.toNat := by
    rcases hgo with ⟨e, e'⟩ | ⟨e, e'⟩
    · rw [← e, e']; exact x7
    · rcases hor with z | z
      · exact absurd z e
      · rw [← z, e']; exact dd _ _ x1 x2 x7
  refine ⟨haN, ?_, ⟨alo, alt, alg⟩, ⟨noo, nog⟩, ⟨uo, ut⟩, fg, d1.symm.trans d2, fun z => ?_⟩
  · intro z; rw [z, hk] at ha0; omega
  · obtain ⟨y1, y2, y3⟩ := id alg
    have egn : ((gone.toNat : Nat) : Int) = gone := by omega
    have tc : ((c : Int)).toNat = c := rfl
    have q : S.1 1 c = gone ∨ S.1 2 c = gone := by
      have q := (((he gone.toNat (by omega)).2.2.2.2 y3).2.2.2.1 (by omega)).2
      rw [z, tc, egn] at q
      exact q
    rcases hoo with ⟨e, e'⟩ | ⟨e, e'⟩
    · rcases q with q | q
      · exact nog (e.trans q)
      · exact hne (q.symm.trans e'.symm)
    · rcases q with q | q
      · exact hne (q.symm.trans e'.symm)
      · exact nog (e.trans q)
set_option maxHeartbeats 2000000 in
theorem s_sl_ok {T : fT} {S : sT} (hi : ∀ f : Nat, f < T.2 → 0 ≤ T.1 3 f → T.1 3 (T.1 3 f).toNat = (f : Int)) (h : s_ok T S) {c a : Nat} {of other gone : Int} (hp : s_at S c a of other gone) : s_ok T (s_sl S c a of other gone) := by
  obtain ⟨haN, hac, ⟨alo, alt, alg⟩, ⟨noo, nog⟩, ⟨uo, ut⟩, fg, ety, nuc⟩ := s_at_f hi h hp
  obtain ⟨hc, hk, hoo, hfa, ha0, hgo, hne⟩ := hp
  replace hoo := box hoo
  replace hgo := box hgo
  obtain ⟨⟨b1, b2, b3⟩, hl, he, hcn, c1, c2⟩ := h
  obtain ⟨o1, o2, o3⟩ := id alo
  obtain ⟨t1, t2, t3⟩ := id alt
  obtain ⟨g1, g2, g3⟩ := id alg
  have u6 := (he gone.toNat (by omega)).2.1
  have u7 := (he gone.toNat (by omega)).2.2.1
  have ug4 := box (((he gone.toNat (by omega)).2.2.2.2 g3).2.2.2.1)
  have ug5 := box (((he gone.toNat (by omega)).2.2.2.2 g3).2.2.2.2)
  have nto : S.1 7 other.toNat = -1 := by
    have ut7 := (he other.toNat (by omega)).2.2.1
    by_cases z : 0 ≤ S.1 7 other.toNat
    · have := ((((he other.toNat (by omega)).2.2.2.2 t3).2.2.2.2) z).1; rw [ut] at this; omega
    · omega
  have egn : ((gone.toNat : Nat) : Int) = gone := by omega
  have eot : ((other.toNat : Nat) : Int) = other := by omega
  have tc : ((c : Int)).toNat = c := rfl
  have ta : ((a : Int)).toNat = a := rfl
  have m0 : ∀ l, l ≠ a → l ≠ c → (s_sl S c a of other gone).1 0 l = S.1 0 l := fun l h1 h2 => up2_o h1 h2
  have m0d : ∀ l, l = a ∨ l = c → (s_sl S c a of other gone).1 0 l = -1 := fun l hl => by
    show sn_up (sn_up (S.1 0) a (-1)) c (-1) l = -1
    by_cases z : l = c
    · rw [z, sn_up_at]
    · rw [sn_up_ne _ z]
      rcases hl with y | y
      · rw [y, sn_up_at]
      · exact absurd y z
  have m1 : ∀ l : Nat, (l : Int) ≠ S.1 6 gone.toNat → (s_sl S c a of other gone).1 1 l = S.1 1 l := fun l hl => by
    show (if 0 ≤ S.1 6 gone.toNat ∧ S.1 1 (S.1 6 gone.toNat).toNat = gone then sn_up (S.1 1) (S.1 6 gone.toNat).toNat other else S.1 1) l = _
    split
    · exact sn_up_ne _ (by omega)
    · rfl
  have m2 : ∀ l : Nat, (l : Int) ≠ S.1 6 gone.toNat → (s_sl S c a of other gone).1 2 l = S.1 2 l := fun l hl => by
    show (if 0 ≤ S.1 6 gone.toNat ∧ ¬ S.1 1 (S.1 6 gone.toNat).toNat = gone then sn_up (S.1 2) (S.1 6 gone.toNat).toNat other else S.1 2) l = _
    split
    · exact sn_up_ne _ (by omega)
    · rfl
  -- the link that gone led to
  have mu : Box (0 ≤ S.1 6 gone.toNat → ((S.1 1 (S.1 6 gone.toNat).toNat = gone ∧ (s_sl S c a of other gone).1 1 (S.1 6 gone.toNat).toNat = other ∧ (s_sl S c a of other gone).1 2 (S.1 6 gone.toNat).toNat = S.1 2 (S.1 6 gone.toNat).toNat) ∨ (¬ S.1 1 (S.1 6 gone.toNat).toNat = gone ∧ (s_sl S c a of other gone).1 1 (S.1 6 gone.toNat).toNat = S.1 1 (S.1 6 gone.toNat).toNat ∧ (s_sl S c a of other gone).1 2 (S.1 6 gone.toNat).toNat = other))) := box <| fun h0 => by
    by_cases z : S.1 1 (S.1 6 gone.toNat).toNat = gone
    · refine Or.inl ⟨z, ?_, ?_⟩
      · show (if 0 ≤ S.1 6 gone.toNat ∧ S.1 1 (S.1 6 gone.toNat).toNat = gone then sn_up (S.1 1) (S.1 6 gone.toNat).toNat other else S.1 1) _ = _
        rw [if_pos ⟨h0, z⟩, sn_up_at]
      · show (if 0 ≤ S.1 6 gone.toNat ∧ ¬ S.1 1 (S.1 6 gone.toNat).toNat = gone then sn_up (S.1 2) (S.1 6 gone.toNat).toNat other else S.1 2) _ = _
        rw [if_neg (fun y => y.2 z)]
    · refine Or.inr ⟨z, ?_, ?_⟩
      · show (if 0 ≤ S.1 6 gone.toNat ∧ S.1 1 (S.1 6 gone.toNat).toNat = gone then sn_up (S.1 1) (S.1 6 gone.toNat).toNat other else S.1 1) _ = _
        rw [if_neg (fun y => z y.2)]
      · show (if 0 ≤ S.1 6 gone.toNat ∧ ¬ S.1 1 (S.1 6 gone.toNat).toNat = gone then sn_up (S.1 2) (S.1 6 gone.toNat).toNat other else S.1 2) _ = _
        rw [if_pos ⟨h0, z⟩, sn_up_at]
  have m3 : ∀ l, (s_sl S c a of other gone).1 3 l = S.1 3 l := fun _ => rfl
  have m4 : ∀ e, e ≠ of.toNat → e ≠ gone.toNat → (s_sl S c a of other gone).1 4 e = S.1 4 e := fun e h1 h2 => up2_o h1 h2
  have m4d : ∀ e, e = of.toNat ∨ e = gone.toNat → (s_sl S c a of other gone).1 4 e = -1 := fun e he => by
    show sn_up (sn_up (S.1 4) of.toNat (-1)) gone.toNat (-1) e = -1
    by_cases z : e = gone.toNat
    · rw [z, sn_up_at]
    · rw [sn_up_ne _ z]
      rcases he with y | y
      · rw [y, sn_up_at]
      · exact absurd y z
  have m5 : ∀ e, (s_sl S c a of other gone).1 5 e = S.1 5 e := fun _ => rfl
  have m6 : ∀ e, e ≠ other.toNat → (s_sl S c a of other gone).1 6 e = S.1 6 e := fun e h1 => sn_up_ne _ h1
  have m6t : (s_sl S c a of other gone).1 6 other.toNat = S.1 6 gone.toNat := sn_up_at _ _ _
  have m7 : ∀ e, e ≠ other.toNat → (s_sl S c a of other gone).1 7 e = S.1 7 e := fun e h1 => sn_up_ne _ h1
  have m7t : (s_sl S c a of other gone).1 7 other.toNat = S.1 7 gone.toNat := sn_up_at _ _ _
  have m8 : ∀ x : Nat, (x : Int) ≠ S.1 7 gone.toNat → (s_sl S c a of other gone).1 8 x = S.1 8 x := fun x hx => by
    show (if 0 ≤ S.1 7 gone.toNat then sn_up (S.1 8) (S.1 7 gone.toNat).toNat other else S.1 8) x = _
    split
    · exact sn_up_ne _ (by omega)
    · rfl
  have m8g : Box (0 ≤ S.1 7 gone.toNat → (s_sl S c a of other gone).1 8 (S.1 7 gone.toNat).toNat = other) := box <| fun h0 => by
    show (if 0 ≤ S.1 7 gone.toNat then sn_up (S.1 8) (S.1 7 gone.toNat).toNat other else S.1 8) _ = _
    rw [if_pos h0, sn_up_at]
  have n2 : (s_sl S c a of other gone).2 = S.2 := rfl
  have cc : ∀ k, cn_ct ((s_sl S c a of other gone).1 0) k S.2.1 ≤ cn_ct (S.1 0) k S.2.1 := fun k => by
    show cn_ct (sn_up (sn_up (S.1 0) a (-1)) c (-1)) k S.2.1 ≤ _
    rw [cn_ct_rm k (by rw [sn_up_ne _ (Ne.symm hac), hk]; decide) _ hc, cn_ct_rm k (by omega) _ haN]
    split <;> split <;> omega
  generalize s_sl S c a of other gone = S' at *
  -- whose edges of and gone are
  have eo : ∀ e : Nat, e < S.2.2.1 → 0 ≤ S.1 4 e → ∀ l : Nat, l < S.2.1 → l ≠ a → l ≠ c → 0 ≤ S.1 0 l → ((e : Int) = S.1 1 l ∨ (e : Int) = S.1 2 l ∨ (e : Int) = S.1 3 l) → e ≠ of.toNat ∧ (e = gone.toNat → 1 ≤ S.1 0 l ∧ S.1 6 gone.toNat = (l : Int)) ∧ (e = other.toNat → S.1 6 other.toNat = (l : Int) → False) := by
    intro e hee h4 l hll nla nlc hal hcase
    have src : Box (S.1 5 e = (l : Int) ∨ (1 ≤ S.1 0 l ∧ S.1 6 e = (l : Int))) := by
      by_cases z : S.1 0 l = 0
      · obtain ⟨p1, p2, p3, p4, p5, p6, -⟩ := (hl l hll).2.1 z
        rcases hcase with y | y | y
        · left; rw [← p4, ← y]; rfl
        · left; rw [← p5, ← y]; rfl
        · omega
      · have w0 := (hl l hll).1
        obtain ⟨p1, p2, p3, p4, p5⟩ := (hl l hll).2.2.1 (by clear hcase; omega)
        rcases hcase with y | y | y
        · right; exact ⟨by omega, by rw [← p4, ← y]; rfl⟩
        · right; exact ⟨by omega, by rw [← p5, ← y]; rfl⟩
        · left
          by_cases z3 : S.1 0 l = 3
          · have := ((hl l hll).2.2.2.2 z3).1; omega
          · obtain ⟨-, q2, -⟩ := (hl l hll).2.2.2.1 (by omega)
            rw [← q2, ← y]; rfl
    refine ⟨fun z => ?_, fun z => ?_, fun z y => by rw [ut] at y; omega⟩
    · rcases src with y | ⟨-, y⟩
      · rw [z, hfa] at y; clear hcase; omega
      · rw [z, uo] at y; clear hcase; omega
    · rcases src with y | y
      · rw [z, fg] at y; clear hcase; omega
      · rw [z] at y; exact y
  refine ⟨by rw [n2]; exact ⟨b1, b2, b3⟩, fun l hll => ?_, fun e hee => ?_, fun x hx => ?_, by rw [n2]; exact Int.le_trans (cc _) c1, by rw [n2]; exact Int.le_trans (cc _) c2⟩
  · rw [n2] at hll
    by_cases hd : l = a ∨ l = c
    · refine ⟨by rw [m0d l hd]; omega, fun z => ?_, fun z => ?_, fun z => ?_, fun z => ?_⟩ <;> rw [m0d l hd] at z <;> omega
    · have nla : l ≠ a := fun z => hd (Or.inl z)
      have nlc : l ≠ c := fun z => hd (Or.inr z)
      by_cases hu : S.1 6 gone.toNat = (l : Int)
      · -- the link below gone
        have w0 := (hl l hll).1
        have w3 := box (hl l hll).2.2.2.1
        have w4 := box (hl l hll).2.2.2.2
        have hk1 : 1 ≤ S.1 0 l := by have := (ug4 (by omega)).1; rw [hu] at this; exact this
        obtain ⟨p1, p2, p3, p4, p5⟩ := (hl l hll).2.2.1 hk1
        have tl : ((l : Int)).toNat = l := rfl
        have hmu := mu (by omega)
        rw [hu, tl] at hmu
        replace hmu := box hmu
        have hpq : Box (S.1 1 l = gone ∨ S.1 2 l = gone) := by
          have := (ug4 (by omega)).2
          rw [hu, tl, egn] at this
          exact this
        -- the other premise
        have prem : ∀ x : Int, s_al S x → S.1 6 x.toNat = (l : Int) → x ≠ gone → s_al S' x ∧ S'.1 6 x.toNat = (l : Int) ∧ x ≠ other ∧ S'.1 4 x.toNat = S.1 4 x.toNat := by
          intro x hx hxu hxg
          obtain ⟨x1, x2, x3⟩ := id hx
          have nxo : x ≠ other := fun z => by rw [z, ut] at hxu; omega
          have nxf : x ≠ of := fun z => by rw [z, uo] at hxu; omega
          have e4 := m4 x.toNat (by omega) (by omega)
          exact ⟨⟨x1, by rw [n2]; exact x2, by rw [e4]; exact x3⟩, by rw [m6 _ (by omega)]; exact hxu, nxo, e4⟩
        have alt' : s_al S' other := ⟨t1, by rw [n2]; exact t2, by rw [m4 _ (by omega) (by omega)]; exact t3⟩
        have eto : S'.1 4 other.toNat = S.1 4 gone.toNat := by rw [m4 _ (by omega) (by omega)]; exact ety
        have uto : S'.1 6 other.toNat = (l : Int) := by rw [m6t]; exact hu
        have ed : Box ((S.1 0 l = 1 ∨ S.1 0 l = 2) → s_al S' (S.1 3 l) ∧ S'.1 5 (S.1 3 l).toNat = (l : Int) ∧ S'.1 4 (S.1 3 l).toNat = S.1 4 (S.1 3 l).toNat) := by
          intro z
          obtain ⟨q1, q2, -⟩ := w3 z
          obtain ⟨y1, y2, y3⟩ := id q1
          have q : S.1 5 (S.1 3 l).toNat ≠ (a : Int) := by rw [q2]; omega
          have n1 : (S.1 3 l).toNat ≠ of.toNat := fun z => by rw [z, hfa] at q; exact q rfl
          have n3 : (S.1 3 l).toNat ≠ gone.toNat := fun z => by rw [z, fg] at q; exact q rfl
          have e4 := m4 _ n1 n3
          exact ⟨⟨y1, by rw [n2]; exact y2, by rw [e4]; exact y3⟩, by rw [m5]; exact q2, e4⟩
        unfold s_wl
        rw [m0 l nla nlc, m3]
        rcases hmu with ⟨z1, z2, z3⟩ | ⟨z1, z2, z3⟩
        · obtain ⟨y1, y2, y3, y4⟩ := prem (S.1 2 l) p2 p5 (by rw [← z1]; exact fun z => p3 z.symm)
          rw [z2, z3]
          refine ⟨w0, fun z => by omega, fun _ => ⟨alt', y1, fun z => y3 z.symm, uto, y2⟩, fun z => ?_, fun z => ?_⟩
          · obtain ⟨q1, q2, q3, q4, q5⟩ := w3 z
            obtain ⟨r1, r2, r3⟩ := ed z
            rw [r3, eto, y4]
            exact ⟨r1, r2, q3, by rw [q4, z1], q5⟩
          · rw [eto, y4, ← z1]
            exact w4 z
        · have z4 : S.1 2 l = gone := by rcases hpq with z | z; exact absurd z z1; exact z
          obtain ⟨y1, y2, y3, y4⟩ := prem (S.1 1 l) p1 p4 z1
          rw [z2, z3]
          refine ⟨w0, fun z => by omega, fun _ => ⟨y1, alt', y3, y2, uto⟩, fun z => ?_, fun z => ?_⟩
          · obtain ⟨q1, q2, q3, q4, q5⟩ := w3 z
            obtain ⟨r1, r2, r3⟩ := ed z
            rw [r3, eto, y4]
            exact ⟨r1, r2, q3, q4, by rw [q5, z4]⟩
          · rw [eto, y4, ← z4]
            exact w4 z
      · refine s_wl_c (hl l hll) ⟨m0 l nla nlc, m1 l (fun z => hu z.symm), m2 l (fun z => hu z.symm), m3 l⟩ (by rw [n2]; exact Nat.le_refl _) (fun h0 e h1 h2 h3 => ?_)
        obtain ⟨k1, k2, k3⟩ := eo e h1 h2 l hll nla nlc h0 h3
        have ne2 : e ≠ gone.toNat := fun z => hu (k2 z).2
        refine ⟨m4 e k1 ne2, m5 e, fun z => ?_⟩
        rw [m6 e (fun y => k3 y (by rw [← y]; exact z))]
        exact z
  · rw [n2] at hee
    have w := he e hee
    by_cases hd : e = of.toNat ∨ e = gone.toNat
    · have w6 : -1 ≤ S'.1 6 e ∧ S'.1 6 e < (S.2.1 : Int) := by rw [m6 e (by omega)]; exact w.2.1
      have w7 : -1 ≤ S'.1 7 e ∧ S'.1 7 e < (S.2.2.2 : Int) := by rw [m7 e (by omega)]; exact w.2.2.1
      have w4 := w.1
      unfold s_we
      rw [m4d e hd, n2, m5]
      exact ⟨by omega, w6, w7, w.2.2.2.1, fun z => by omega⟩
    · have nof : e ≠ of.toNat := fun z => hd (Or.inl z)
      have ngo : e ≠ gone.toNat := fun z => hd (Or.inr z)
      obtain ⟨a4, a6, a7, a5, af⟩ := id w
      replace af := box af
      -- the link that e comes from stays
      have src : Box (0 ≤ S.1 4 e → (S.1 5 e).toNat ≠ a ∧ (S.1 5 e).toNat ≠ c) := by
        intro z
        refine ⟨fun y => ?_, fun y => ?_⟩
        · have q := (af z).2.1
          rw [y] at q
          have q := q ha0
          have q' := ((he of.toNat (by omega)).2.2.2.2 o3).2.1
          rw [hfa, ta] at q'
          have q' := q' ha0
          rcases hgo with ⟨q1, q2⟩ | ⟨q1, q2⟩ <;> omega
        · have f1 := (af z).1
          rw [y, hk] at f1; omega
      by_cases het : e = other.toNat
      · subst het
        obtain ⟨f1, f2, f3, f4, f5⟩ := af t3
        replace f1 := box f1
        replace f2 := box f2
        replace f3 := box f3
        replace f4 := box f4
        replace f5 := box f5
        obtain ⟨s1, s2⟩ := src t3
        have nu : Box (0 ≤ S.1 6 gone.toNat → (S.1 6 gone.toNat).toNat ≠ a ∧ (S.1 6 gone.toNat).toNat ≠ c) := box <| fun z => by
          have := (ug4 z).1
          refine ⟨fun y => by rw [y, ha0] at this; omega, fun y => nuc (by omega)⟩
        unfold s_we
        rw [m4 _ nof ngo, m5, m6t, m7t, m0 _ s1 s2, m3, n2]
        refine ⟨a4, u6, u7, a5, fun _ => ⟨f1, fun z => ?_, f3, fun z => ?_, fun z => ⟨(ug5 z).1, by rw [m8g z, eot]⟩⟩⟩
        · have nz : ¬ ((((S.1 5 other.toNat).toNat : Nat) : Int) = S.1 6 gone.toNat) := fun y => by
            have q := (ug4 (by omega)).1
            rw [← y] at q
            have tt : ((((S.1 5 other.toNat).toNat : Nat) : Int)).toNat = (S.1 5 other.toNat).toNat := rfl
            rw [tt, z] at q
            omega
          rw [m1 _ nz, m2 _ nz]
          exact f2 z
        · obtain ⟨k1, k2⟩ := nu z
          rw [m0 _ k1 k2]
          refine ⟨(ug4 z).1, ?_⟩
          rcases mu z with ⟨-, y, -⟩ | ⟨-, -, y⟩
          · exact Or.inl (by rw [y, eot])
          · exact Or.inr (by rw [y, eot])
      · refine s_we_c w ⟨m4 e nof ngo, m5 e, m6 e het, m7 e het⟩ (by rw [n2]; exact Nat.le_refl _) (by rw [n2]; exact Nat.le_refl _) (fun z => ?_) (fun z y => ?_) (fun z y => ?_)
        · obtain ⟨s1, s2⟩ := src z
          refine ⟨m0 _ s1 s2, fun y => ?_, m3 _⟩
          have nz : ¬ ((((S.1 5 e).toNat : Nat) : Int) = S.1 6 gone.toNat) := fun x => by
            have q := (ug4 (by omega)).1
            rw [← x] at q
            have tt : ((((S.1 5 e).toNat : Nat) : Int)).toNat = (S.1 5 e).toNat := rfl
            rw [tt, y] at q
            omega
          exact ⟨m1 _ nz, m2 _ nz⟩
        · obtain ⟨k1, k2⟩ := (af z).2.2.2.1 y
          have na : (S.1 6 e).toNat ≠ a := fun x => by rw [x, ha0] at k1; omega
          have nc : (S.1 6 e).toNat ≠ c := fun x => by
            rw [x] at k2
            rcases hoo with ⟨q1, q2⟩ | ⟨q1, q2⟩ <;> omega
          refine ⟨m0 _ na nc, fun x => ?_, fun x => ?_⟩
          · by_cases hu : S.1 6 gone.toNat = S.1 6 e
            · have hm := mu (by omega)
              rw [hu] at hm
              rcases hm with ⟨q1, -, -⟩ | ⟨-, q2, -⟩
              · omega
              · rw [q2]; exact x
            · rw [m1 _ (by omega)]; exact x
          · by_cases hu : S.1 6 gone.toNat = S.1 6 e
            · have hm := mu (by omega)
              rw [hu] at hm
              rcases hm with ⟨-, -, q3⟩ | ⟨q1, -, -⟩
              · rw [q3]; exact x
              · have q := (ug4 (by omega)).2
                rw [hu] at q
                rcases q with q | q <;> omega
            · rw [m2 _ (by omega)]; exact x
        · refine m8 _ (fun x => ?_)
          have p := ((af z).2.2.2.2 y).2
          have q := (ug5 (by omega)).2
          have : S.1 7 e = S.1 7 gone.toNat := by omega
          rw [this, q] at p
          omega
  · rw [n2] at hx
    unfold s_wc
    have q := hcn x hx
    by_cases ex : (x : Int) = S.1 7 gone.toNat
    · have q8 := m8g (by omega)
      have en : (S.1 7 gone.toNat).toNat = x := by omega
      rw [en] at q8
      rw [q8, m7t]
      exact ⟨⟨t1, by rw [n2]; exact t2, by rw [m4 _ (by omega) (by omega)]; exact t3⟩, ex.symm⟩
    · obtain ⟨⟨q1, q2, q3⟩, q4⟩ := q
      have q5 := ((he (S.1 8 x).toNat (by omega)).2.2.2.2 q3).2.2.2.2 (by omega)
      have nof : (S.1 8 x).toNat ≠ of.toNat := fun z => by rw [z, uo] at q5; omega
      have ngo : (S.1 8 x).toNat ≠ gone.toNat := fun z => by rw [z] at q4; omega
      have nto : (S.1 8 x).toNat ≠ other.toNat := fun z => by rw [z, nto] at q4; omega
      rw [m8 x ex, m7 _ nto]
      exact ⟨⟨q1, by rw [n2]; exact q2, by rw [m4 _ nof ngo]; exact q3⟩, q4⟩
