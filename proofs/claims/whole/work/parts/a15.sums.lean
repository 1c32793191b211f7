/-! A net has a conclusion: by counting. -/
def sm (n : Nat) (g : Nat → Int) : Int := match n with
  | 0 => 0
  | n + 1 => sm n g + g n
theorem sm_c {n : Nat} {g h : Nat → Int} (e : ∀ i, i < n → g i = h i) : sm n g = sm n h := by
  induction n with
  | zero => rfl
  | succ n ih =>
    show sm n g + g n = sm n h + h n
    rw [ih (fun i hi => e i (by omega)), e n (by omega)]
theorem sm_a (n : Nat) (g h : Nat → Int) : sm n (fun i => g i + h i) = sm n g + sm n h := by
  induction n with
  | zero => rfl
  | succ n ih =>
    show sm n (fun i => g i + h i) + (g n + h n) = (sm n g + g n) + (sm n h + h n)
    rw [ih]
    omega
theorem sm_0 (n : Nat) : sm n (fun _ => 0) = 0 := by
  induction n with
  | zero => rfl
  | succ n ih =>
    show sm n (fun _ => 0) + 0 = 0
    rw [ih]
    rfl
theorem sm_1 {n k : Nat} (hk : k < n) (g : Nat → Int) : sm n (fun i => if i = k then g i else 0) = g k := by
  induction n with
  | zero => exact absurd hk (Nat.not_lt_zero k)
  | succ n ih =>
    show sm n (fun i => if i = k then g i else 0) + (if n = k then g n else 0) = g k
    by_cases z : n = k
    · subst z
      rw [if_pos rfl, sm_c (h := fun _ => 0) (fun i hi => if_neg (by omega)), sm_0]
      omega
    · rw [if_neg z, ih (by omega)]
      omega
theorem sm_sw (n m : Nat) (g : Nat → Nat → Int) : sm n (fun i => sm m (fun j => g i j)) = sm m (fun j => sm n (fun i => g i j)) := by
  induction n with
  | zero => exact (sm_0 m).symm
  | succ n ih =>
    show sm n (fun i => sm m (fun j => g i j)) + sm m (fun j => g n j) = sm m (fun j => sm n (fun i => g i j) + g n j)
    rw [ih, sm_a]
/-- a sum by what each belongs to -/
theorem sm_by {n m : Nat} (g : Nat → Int) (b : Nat → Nat) (hb : ∀ i, i < n → ¬ g i = 0 → b i < m) : sm n g = sm m (fun j => sm n (fun i => if b i = j then g i else 0)) := by
  rw [← sm_sw n m (fun i j => if b i = j then g i else 0)]
  refine sm_c (fun i hi => ?_)
  by_cases z : g i = 0
  · rw [z, sm_c (h := fun _ => 0) (fun j _ => by split <;> rfl), sm_0]
  · rw [sm_c (h := fun j => if j = b i then g i else 0) (fun j _ => by
      by_cases y : b i = j
      · rw [if_pos y, if_pos y.symm]
      · rw [if_neg y, if_neg (fun w => y w.symm)]), sm_1 (hb i hi z) (fun _ => g i)]
theorem sm_2 {n k l : Nat} (hk : k < n) (hl : l < n) (hne : k ≠ l) (g : Nat → Int) : sm n (fun i => if i = k ∨ i = l then g i else 0) = g k + g l := by
  rw [sm_c (h := fun i => (if i = k then g i else 0) + (if i = l then g i else 0)) (fun i _ => ?_), sm_a, sm_1 hk g, sm_1 hl g]
  by_cases z : i = k
  · rw [if_pos (Or.inl z), if_pos z, if_neg (fun y => hne (z.symm.trans y))]
    omega
  · by_cases y : i = l
    · rw [if_pos (Or.inr y), if_neg z, if_pos y]
      omega
    · rw [if_neg (fun w => w.elim z y), if_neg z, if_neg y]
      rfl
/-- weights of formulas -/
theorem fv_ex {T : fT} (hT : fT_ok T) : ∀ n, n ≤ T.2 → ∃ v : Nat → Int, ∀ f, f < n → (T.1 0 f = 0 → v f = T.1 2 f) ∧ (T.1 0 f = 1 → v f = v (T.1 1 f).toNat + v (T.1 2 f).toNat - 1) ∧ (T.1 0 f = 2 → v f = v (T.1 1 f).toNat + v (T.1 2 f).toNat) := by
  intro n
  induction n with
  | zero => intro _; exact ⟨fun _ => 0, fun f hf => absurd hf (Nat.not_lt_zero f)⟩
  | succ n ih =>
    intro hn
    obtain ⟨v, hv⟩ := ih (by omega)
    refine ⟨fun x => if x = n then (if T.1 0 n = 0 then T.1 2 n else if T.1 0 n = 1 then v (T.1 1 n).toNat + v (T.1 2 n).toNat - 1 else v (T.1 1 n).toNat + v (T.1 2 n).toNat) else v x, fun f hf => ?_⟩
    have old : ∀ f, f ≤ n → ¬ T.1 0 f = 0 → f < T.2 → (T.1 1 f).toNat ≠ n ∧ (T.1 2 f).toNat ≠ n := fun f h1 h2 h3 => by
      rcases hT.1 f h3 with ⟨z, -⟩ | ⟨-, z1, z2⟩
      · exact absurd z h2
      · omega
    by_cases z : f = n
    · subst z
      refine ⟨fun k => ?_, fun k => ?_, fun k => ?_⟩
      · show (if f = f then _ else _) = _
        rw [if_pos rfl, if_pos k]
      · obtain ⟨o1, o2⟩ := old f (Nat.le_refl f) (by omega) (by omega)
        show (if f = f then (if T.1 0 f = 0 then T.1 2 f else if T.1 0 f = 1 then v (T.1 1 f).toNat + v (T.1 2 f).toNat - 1 else v (T.1 1 f).toNat + v (T.1 2 f).toNat) else v f) = (if (T.1 1 f).toNat = f then _ else v (T.1 1 f).toNat) + (if (T.1 2 f).toNat = f then _ else v (T.1 2 f).toNat) - 1
        rw [if_pos rfl, if_neg o1, if_neg o2, if_neg (by omega), if_pos k]
      · obtain ⟨o1, o2⟩ := old f (Nat.le_refl f) (by omega) (by omega)
        show (if f = f then (if T.1 0 f = 0 then T.1 2 f else if T.1 0 f = 1 then v (T.1 1 f).toNat + v (T.1 2 f).toNat - 1 else v (T.1 1 f).toNat + v (T.1 2 f).toNat) else v f) = (if (T.1 1 f).toNat = f then _ else v (T.1 1 f).toNat) + (if (T.1 2 f).toNat = f then _ else v (T.1 2 f).toNat)
        rw [if_pos rfl, if_neg o1, if_neg o2, if_neg (by omega), if_neg (by omega)]
    · obtain ⟨h0, h1, h2⟩ := hv f (by omega)
      refine ⟨fun k => ?_, fun k => ?_, fun k => ?_⟩
      · show (if f = n then _ else v f) = _
        rw [if_neg z]
        exact h0 k
      · obtain ⟨o1, o2⟩ := old f (by omega) (by omega) (by omega)
        show (if f = n then _ else v f) = (if (T.1 1 f).toNat = n then _ else v (T.1 1 f).toNat) + (if (T.1 2 f).toNat = n then _ else v (T.1 2 f).toNat) - 1
        rw [if_neg z, if_neg o1, if_neg o2]
        exact h1 k
      · obtain ⟨o1, o2⟩ := old f (by omega) (by omega) (by omega)
        show (if f = n then _ else v f) = (if (T.1 1 f).toNat = n then _ else v (T.1 1 f).toNat) + (if (T.1 2 f).toNat = n then _ else v (T.1 2 f).toNat)
        rw [if_neg z, if_neg o1, if_neg o2]
        exact h2 k
theorem fv_du {T : fT} (hT : fT_ok T) {v : Nat → Int} (hv : ∀ f, f < T.2 → (T.1 0 f = 0 → v f = T.1 2 f) ∧ (T.1 0 f = 1 → v f = v (T.1 1 f).toNat + v (T.1 2 f).toNat - 1) ∧ (T.1 0 f = 2 → v f = v (T.1 1 f).toNat + v (T.1 2 f).toNat)) : ∀ f, f < T.2 → 0 ≤ T.1 3 f → v f + v (T.1 3 f).toNat = 1 := by
  intro f
  induction f using Nat.strongRecOn with
  | ind f ih =>
    intro hf hd
    have dp := hT.2.2.1 f hf
    rcases hT.1 f hf with ⟨k, -, -⟩ | ⟨k, kl, kr⟩
    · rcases dp.1 k with ⟨z, -⟩ | ⟨j, hj, e, m1, m2, m3⟩
      · omega
      · have e2 : (T.1 3 f).toNat = j := by omega
        rw [e2, (hv f hf).1 k, (hv j hj).1 m1, m3]
        omega
    · obtain ⟨d1, d2⟩ := dp.2 (by omega)
      by_cases z : T.1 3 (T.1 1 f).toNat < 0 ∨ T.1 3 (T.1 2 f).toNat < 0
      · have := d1 z
        omega
      · have il := ih (T.1 1 f).toNat (by omega) (by omega) (by omega)
        have ir := ih (T.1 2 f).toNat (by omega) (by omega) (by omega)
        rcases d2 (by omega) (by omega) with ⟨z, -⟩ | ⟨j, hj, e, m1, m2, m3⟩
        · omega
        · have e2 : (T.1 3 f).toNat = j := by omega
          rw [e2]
          rcases k with k | k
          · have a := (hv f hf).2.1 k
            have b := (hv j hj).2.2 (by omega)
            rw [m2, m3] at b
            omega
          · have a := (hv f hf).2.2 k
            have b := (hv j hj).2.1 (by omega)
            rw [m2, m3] at b
            omega
theorem sE_sm (S : sT) : ((sE S).length : Int) = sm S.2.1 (fun l => if S.1 0 l = 1 ∨ S.1 0 l = 3 then 2 else 0) := by
  unfold sE
  generalize S.2.1 = n
  induction n with
  | zero => rfl
  | succ n ih =>
    rw [cs_B_s, List.length_append]
    show _ = sm n (fun l => if S.1 0 l = 1 ∨ S.1 0 l = 3 then 2 else 0) + (if S.1 0 n = 1 ∨ S.1 0 n = 3 then 2 else 0)
    rw [← ih]
    by_cases z : S.1 0 n = 1 ∨ S.1 0 n = 3
    · rw [if_pos z, if_pos z]
      simp only [List.length_cons, List.length_nil]
      omega
    · rw [if_neg z, if_neg z, List.length_nil]
      omega
theorem sQ_sm (S : sT) : ((sQ S).length : Int) = sm S.2.1 (fun l => if S.1 0 l = 2 then 1 else 0) := by
  unfold sQ
  rw [List.length_map]
  generalize S.2.1 = n
  induction n with
  | zero => rfl
  | succ n ih =>
    rw [cs_pl_s, List.length_append]
    show _ = sm n (fun l => if S.1 0 l = 2 then 1 else 0) + (if S.1 0 n = 2 then 1 else 0)
    rw [← ih]
    by_cases z : S.1 0 n = 2
    · rw [if_pos z, if_pos z]
      simp only [List.length_cons, List.length_nil]
      omega
    · rw [if_neg z, if_neg z, List.length_nil]
      omega
theorem sA_sm (S : sT) : ((sA S).length : Int) = sm S.2.1 (fun l => if 0 ≤ S.1 0 l then 1 else 0) := by
  unfold sA
  generalize S.2.1 = n
  induction n with
  | zero => rfl
  | succ n ih =>
    rw [List.range_succ, List.filter_append, List.length_append]
    show _ = sm n (fun l => if 0 ≤ S.1 0 l then 1 else 0) + (if 0 ≤ S.1 0 n then 1 else 0)
    rw [← ih]
    by_cases h : 0 ≤ S.1 0 n
    · rw [if_pos h, List.filter_cons_of_pos (by simpa using h)]
      simp only [List.filter_nil, List.length_cons, List.length_nil]
      omega
    · rw [if_neg h, List.filter_cons_of_neg (by simpa using h)]
      simp only [List.filter_nil, List.length_nil]
      omega
/-- were there no conclusion, the axioms would be as many as the tensors and cuts -/
theorem s_conc {T : fT} {S : sT} (hT : fT_ok T) (h : s_ok T S) (hg : (sE S).length + (sQ S).length + 1 = (sA S).length) (hcp : ∀ e, e < S.2.2.1 → 0 ≤ S.1 4 e → ¬ (S.1 6 e = -1 ∧ S.1 7 e = -1)) : 0 < S.2.2.2 := by
  refine Classical.byContradiction (fun hc => ?_)
  have hu : ∀ e, e < S.2.2.1 → 0 ≤ S.1 4 e → 0 ≤ S.1 6 e := fun e he ha => by
    have w := h.2.2.1 e he
    have w1 := w.2.1
    have w2 := w.2.2.1
    have := hcp e he ha
    omega
  obtain ⟨v, hv⟩ := fv_ex hT T.2 (Nat.le_refl _)
  have hd := fv_du hT hv
  have tn : ∀ {x : Int}, s_al S x → x.toNat < S.2.2.1 ∧ (x.toNat : Int) = x ∧ (S.1 4 x.toNat).toNat < T.2 ∧ 0 ≤ S.1 4 x.toNat := fun {x} hx => by
    have x1 := hx.1
    have x2 := hx.2.1
    have x3 := hx.2.2
    have w := (h.2.2.1 x.toNat (by omega)).1
    exact ⟨by omega, by omega, by omega, x3⟩
  let g : Nat → Int := fun e => if 0 ≤ S.1 4 e then v (S.1 4 e).toNat else 0
  have ga : ∀ {e : Nat}, ¬ g e = 0 → 0 ≤ S.1 4 e := fun {e} z => Classical.byContradiction (fun y => z (if_neg y))
  have gp : ∀ {e : Nat}, 0 ≤ S.1 4 e → g e = v (S.1 4 e).toNat := fun {e} z => if_pos z
  have bySrc := sm_by (m := S.2.1) g (fun e => (S.1 5 e).toNat) (fun e he _ => by have := (h.2.2.1 e he).2.2.2.1; show (S.1 5 e).toNat < S.2.1; omega)
  have byUse := sm_by (m := S.2.1) g (fun e => (S.1 6 e).toNat) (fun e he hz => by
    have := (h.2.2.1 e he).2.1
    have := hu e he (ga hz)
    show (S.1 6 e).toNat < S.2.1
    omega)
  -- what a link makes, and what it takes
  have eS : ∀ l, l < S.2.1 → sm S.2.2.1 (fun e => if (S.1 5 e).toNat = l then g e else 0) = (if S.1 0 l = 0 then 1 else 0) + (if S.1 0 l = 1 ∨ S.1 0 l = 2 then g (S.1 1 l).toNat + g (S.1 2 l).toNat else 0) - (if S.1 0 l = 1 then 1 else 0) := by
    intro l hl
    have wl := h.2.1 l hl
    have src : ∀ e, e < S.2.2.1 → 0 ≤ S.1 4 e → (S.1 5 e).toNat = l → (S.1 0 l = 0 ∧ ((e : Int) = S.1 1 l ∨ (e : Int) = S.1 2 l)) ∨ ((S.1 0 l = 1 ∨ S.1 0 l = 2) ∧ (e : Int) = S.1 3 l) := by
      intro e he ha hs
      obtain ⟨w1, w2, w3, -⟩ := (h.2.2.1 e he).2.2.2.2 ha
      rw [hs] at w1 w2 w3
      rcases w1 with z | z | z
      · refine Or.inl ⟨z, ?_⟩
        rcases w2 z with y | y
        · exact Or.inl y.symm
        · exact Or.inr y.symm
      · exact Or.inr ⟨Or.inl z, (w3 (by omega)).symm⟩
      · exact Or.inr ⟨Or.inr z, (w3 (by omega)).symm⟩
    by_cases k0 : S.1 0 l = 0
    · obtain ⟨a1, a2, a3, a4, a5, -, a7⟩ := wl.2.1 k0
      obtain ⟨p1, p2, p3, p4⟩ := tn a1
      obtain ⟨q1, q2, q3, q4⟩ := tn a2
      rw [sm_c (h := fun e => if e = (S.1 1 l).toNat ∨ e = (S.1 2 l).toNat then g e else 0) (fun e he => ?_), sm_2 p1 q1 (by omega) g, gp p4, gp q4, if_pos k0, if_neg (by omega), if_neg (by omega)]
      · have := hd _ p3 (by rw [a7]; exact q4)
        rw [a7] at this
        omega
      · by_cases z : e = (S.1 1 l).toNat ∨ e = (S.1 2 l).toNat
        · rw [if_pos z, if_pos]
          rcases z with rfl | rfl
          · omega
          · omega
        · rw [if_neg z]
          by_cases y : (S.1 5 e).toNat = l
          · rw [if_pos y]
            refine Classical.byContradiction (fun x => z ?_)
            rcases src e he (ga x) y with ⟨-, w⟩ | ⟨w, -⟩
            · omega
            · omega
          · rw [if_neg y]
    · by_cases k12 : S.1 0 l = 1 ∨ S.1 0 l = 2
      · obtain ⟨a1, a2, a3, a4, a5⟩ := wl.2.2.2.1 k12
        obtain ⟨b1, b2, -⟩ := wl.2.2.1 (by omega)
        obtain ⟨p1, p2, p3, p4⟩ := tn a1
        obtain ⟨-, -, -, q4⟩ := tn b1
        obtain ⟨-, -, -, r4⟩ := tn b2
        rw [sm_c (h := fun e => if e = (S.1 3 l).toNat then g e else 0) (fun e he => ?_), sm_1 p1 g, gp p4, gp q4, gp r4, if_neg k0, if_pos k12]
        · have := hv _ p3
          rw [a3, a4, a5] at this
          rcases k12 with k | k
          · rw [if_pos k, this.2.1 k]
            omega
          · rw [if_neg (by omega), this.2.2 k]
            omega
        · by_cases z : e = (S.1 3 l).toNat
          · rw [if_pos z, if_pos]
            subst z
            omega
          · rw [if_neg z]
            by_cases y : (S.1 5 e).toNat = l
            · rw [if_pos y]
              refine Classical.byContradiction (fun x => z ?_)
              rcases src e he (ga x) y with ⟨w, -⟩ | ⟨-, w⟩
              · omega
              · omega
            · rw [if_neg y]
      · rw [if_neg k0, if_neg k12, if_neg (by omega), sm_c (h := fun _ => 0) (fun e he => ?_), sm_0]
        · rfl
        · by_cases y : (S.1 5 e).toNat = l
          · rw [if_pos y]
            refine Classical.byContradiction (fun x => ?_)
            rcases src e he (ga x) y with ⟨w, -⟩ | ⟨w, -⟩
            · exact k0 w
            · exact k12 w
          · rw [if_neg y]
  have eU : ∀ l, l < S.2.1 → sm S.2.2.1 (fun e => if (S.1 6 e).toNat = l then g e else 0) = (if S.1 0 l = 3 then 1 else 0) + (if S.1 0 l = 1 ∨ S.1 0 l = 2 then g (S.1 1 l).toNat + g (S.1 2 l).toNat else 0) := by
    intro l hl
    have wl := h.2.1 l hl
    have use : ∀ e, e < S.2.2.1 → 0 ≤ S.1 4 e → (S.1 6 e).toNat = l → 1 ≤ S.1 0 l ∧ ((e : Int) = S.1 1 l ∨ (e : Int) = S.1 2 l) := by
      intro e he ha hs
      obtain ⟨-, -, -, w4, -⟩ := (h.2.2.1 e he).2.2.2.2 ha
      have w4 := w4 (hu e he ha)
      rw [hs] at w4
      refine ⟨w4.1, ?_⟩
      rcases w4.2 with y | y
      · exact Or.inl y.symm
      · exact Or.inr y.symm
    by_cases k1 : 1 ≤ S.1 0 l
    · obtain ⟨a1, a2, a3, a4, a5⟩ := wl.2.2.1 k1
      obtain ⟨p1, p2, p3, p4⟩ := tn a1
      obtain ⟨q1, q2, q3, q4⟩ := tn a2
      rw [sm_c (h := fun e => if e = (S.1 1 l).toNat ∨ e = (S.1 2 l).toNat then g e else 0) (fun e he => ?_), sm_2 p1 q1 (by omega) g]
      · have k3 := wl.1.2
        by_cases k : S.1 0 l = 3
        · rw [if_pos k, if_neg (by omega), gp p4, gp q4]
          have a7 := (wl.2.2.2.2 k).2
          have := hd _ p3 (by rw [a7]; exact q4)
          rw [a7] at this
          omega
        · rw [if_neg k, if_pos (by omega)]
          omega
      · by_cases z : e = (S.1 1 l).toNat ∨ e = (S.1 2 l).toNat
        · rw [if_pos z, if_pos]
          rcases z with rfl | rfl
          · omega
          · omega
        · rw [if_neg z]
          by_cases y : (S.1 6 e).toNat = l
          · rw [if_pos y]
            refine Classical.byContradiction (fun x => z ?_)
            have := use e he (ga x) y
            omega
          · rw [if_neg y]
    · rw [if_neg (by omega), if_neg (by omega), sm_c (h := fun _ => 0) (fun e he => ?_), sm_0]
      · rfl
      · by_cases y : (S.1 6 e).toNat = l
        · rw [if_pos y]
          refine Classical.byContradiction (fun x => ?_)
          exact k1 (use e he (ga x) y).1
        · rw [if_neg y]
  rw [sm_c eS] at bySrc
  rw [sm_c eU] at byUse
  have e1 := bySrc.symm.trans byUse
  -- counting links
  have key : sm S.2.1 (fun l => if S.1 0 l = 0 then 1 else 0) = sm S.2.1 (fun l => if S.1 0 l = 1 then 1 else 0) + sm S.2.1 (fun l => if S.1 0 l = 3 then 1 else 0) := by
    have x1 := sm_a S.2.1 (fun l => (if S.1 0 l = 0 then 1 else 0) + (if S.1 0 l = 1 ∨ S.1 0 l = 2 then g (S.1 1 l).toNat + g (S.1 2 l).toNat else 0) - (if S.1 0 l = 1 then 1 else 0)) (fun l => if S.1 0 l = 1 then 1 else 0)
    have x2 : sm S.2.1 (fun l => ((if S.1 0 l = 0 then 1 else 0) + (if S.1 0 l = 1 ∨ S.1 0 l = 2 then g (S.1 1 l).toNat + g (S.1 2 l).toNat else 0) - (if S.1 0 l = 1 then 1 else 0)) + (if S.1 0 l = 1 then 1 else 0)) = sm S.2.1 (fun l => (if S.1 0 l = 0 then 1 else 0) + (if S.1 0 l = 1 ∨ S.1 0 l = 2 then g (S.1 1 l).toNat + g (S.1 2 l).toNat else 0)) := sm_c (fun l _ => by omega)
    have x3 := sm_a S.2.1 (fun l => if S.1 0 l = 0 then 1 else 0) (fun l => if S.1 0 l = 1 ∨ S.1 0 l = 2 then g (S.1 1 l).toNat + g (S.1 2 l).toNat else 0)
    have x4 := sm_a S.2.1 (fun l => if S.1 0 l = 3 then 1 else 0) (fun l => if S.1 0 l = 1 ∨ S.1 0 l = 2 then g (S.1 1 l).toNat + g (S.1 2 l).toNat else 0)
    omega
  have cE := sE_sm S
  have cQ := sQ_sm S
  have cA := sA_sm S
  have y1 : sm S.2.1 (fun l => if S.1 0 l = 1 ∨ S.1 0 l = 3 then 2 else 0) = sm S.2.1 (fun l => (((if S.1 0 l = 1 then 1 else 0) + (if S.1 0 l = 3 then 1 else 0)) + ((if S.1 0 l = 1 then 1 else 0) + (if S.1 0 l = 3 then 1 else 0)) : Int)) := sm_c (fun l _ => by
    by_cases a : S.1 0 l = 1
    · rw [if_pos (Or.inl a), if_pos a, if_neg (by omega)]; rfl
    · by_cases b : S.1 0 l = 3
      · rw [if_pos (Or.inr b), if_neg a, if_pos b]; rfl
      · rw [if_neg (fun w => w.elim a b), if_neg a, if_neg b]; rfl)
  have y2 : sm S.2.1 (fun l => if 0 ≤ S.1 0 l then 1 else 0) = sm S.2.1 (fun l => (((if S.1 0 l = 0 then 1 else 0) + (if S.1 0 l = 2 then 1 else 0)) + ((if S.1 0 l = 1 then 1 else 0) + (if S.1 0 l = 3 then 1 else 0)) : Int)) := sm_c (fun l hl => by
    have := (h.2.1 l hl).1
    by_cases a0 : S.1 0 l = 0
    · rw [if_pos (by omega), if_pos a0, if_neg (by omega), if_neg (by omega), if_neg (by omega)]; rfl
    · by_cases a1 : S.1 0 l = 1
      · rw [if_pos (by omega), if_neg a0, if_neg (by omega), if_pos a1, if_neg (by omega)]; rfl
      · by_cases a2 : S.1 0 l = 2
        · rw [if_pos (by omega), if_neg a0, if_pos a2, if_neg a1, if_neg (by omega)]; rfl
        · by_cases a3 : S.1 0 l = 3
          · rw [if_pos (by omega), if_neg a0, if_neg a2, if_neg a1, if_pos a3]; rfl
          · rw [if_neg (by omega), if_neg a0, if_neg a2, if_neg a1, if_neg a3]; rfl)
  simp only [sm_a] at y1 y2
  omega
theorem net_cp {T : fT} {S : sT} (hok : s_ok T S) {f : Int} (hV : s_V S 0 f) : ∀ e, e < S.2.2.1 → 0 ≤ S.1 4 e → ¬ (S.1 6 e = -1 ∧ S.1 7 e = -1) := by
  obtain ⟨⟨-, hcp⟩, -⟩ | ⟨-, hv, -⟩ := hV
  case inr => exact absurd hv (by decide)
  intro e he ha hz
  have e10 : (s_st S).1 9 0 10 = (S.2.2.1 : Int) := sx_9 (s_st_x S) (by omega)
  refine hcp e (by rw [e10]; omega) ((in_csE (s_st_i hok) (e : Int)).2.mpr ⟨⟨by omega, by omega, ha⟩, hz⟩)
theorem net_conc {T : fT} {S : sT} (hT : fT_ok T) (hok : s_ok T S) {f : Int} (hV : s_V S 0 f) : 0 < S.2.2.2 := s_conc hT hok (net_gd hok hV).2.2.1 (net_cp hok hV)
