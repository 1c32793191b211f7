/-! One formula more: what stays true of tables and duals. -/
def d_inv (n : Nat) (d : Nat → Int) : Prop := ∀ f : Nat, f < n → 0 ≤ d f → d (d f).toNat = (f : Int)
/-- the dual of a triple, looked up among the first n -/
def dx_is (K L R : Nat → Int) (n : Nat) (d : Nat → Int) (k l r x : Int) : Prop := (k = 0 → fm_F K L R n 0 l (1 - r) x) ∧ (¬ k = 0 → ((d l.toNat < 0 ∨ d r.toNat < 0) → x = -1) ∧ (0 ≤ d l.toNat → 0 ≤ d r.toNat → fm_F K L R n (3 - k) (d l.toNat) (d r.toNat) x))
theorem dx_u {K L R : Nat → Int} {n : Nat} (hu : tb_u K L R n) {d : Nat → Int} {k l r x y : Int} (hx : dx_is K L R n d k l r x) (hy : dx_is K L R n d k l r y) : x = y := by
  by_cases hk : k = 0
  · exact fm_F_u hu (hx.1 hk) (hy.1 hk)
  · obtain ⟨a1, a2⟩ := hx.2 hk
    obtain ⟨b1, b2⟩ := hy.2 hk
    by_cases hd : d l.toNat < 0 ∨ d r.toNat < 0
    · rw [a1 hd, b1 hd]
    · exact fm_F_u hu (a2 (by omega) (by omega)) (b2 (by omega) (by omega))
def dx_d (d : Nat → Int) (n : Nat) (x : Int) : Nat → Int := if x = -1 then sn_up d n x else sn_up (sn_up d n x) x.toNat (n : Int)
theorem sn_up_at (p : Nat → Int) (a : Nat) (x : Int) : sn_up p a x a = x := by unfold sn_up; rw [if_pos rfl]
theorem sn_up_ne {p : Nat → Int} {a b : Nat} (x : Int) (h : b ≠ a) : sn_up p a x b = p b := by unfold sn_up; rw [if_neg h]
/-- what a new formula must be -/
def tb_new (K L R : Nat → Int) (n : Nat) (k l r : Int) : Prop := ((k = 0 ∧ (0 ≤ l ∧ l < 8) ∧ (r = 0 ∨ r = 1)) ∨ ((k = 1 ∨ k = 2) ∧ (0 ≤ l ∧ l < (n : Int)) ∧ (0 ≤ r ∧ r < (n : Int)))) ∧ ∀ j, j < n → ¬ fm_M K L R k l r j
section TA
variable {K L R : Nat → Int} {n : Nat} {d : Nat → Int} {k l r x : Int}
theorem tb_add_w (hw : tb_w K L R n) (hn : tb_new K L R n k l r) : tb_w (sn_up K n k) (sn_up L n l) (sn_up R n r) (n + 1) := by
  intro f hf
  by_cases e : f = n
  · subst e
    rw [sn_up_at, sn_up_at, sn_up_at]
    exact hn.1
  · rw [sn_up_ne _ e, sn_up_ne _ e, sn_up_ne _ e]
    exact hw f (by omega)
theorem tb_add_u (hu : tb_u K L R n) (hn : tb_new K L R n k l r) : tb_u (sn_up K n k) (sn_up L n l) (sn_up R n r) (n + 1) := by
  intro f g hf hg h1 h2 h3
  by_cases e : f = n
  · subst e
    by_cases e2 : g = f
    · exact e2.symm
    · rw [sn_up_at, sn_up_ne _ e2] at h1 h2 h3
      exact absurd ⟨h1.symm, h2.symm, h3.symm⟩ (hn.2 g (by omega))
  · by_cases e2 : g = n
    · subst e2
      rw [sn_up_at, sn_up_ne _ e] at h1 h2 h3
      exact absurd ⟨h1, h2, h3⟩ (hn.2 f (by omega))
    · rw [sn_up_ne _ e, sn_up_ne _ e2] at h1 h2 h3
      exact hu f g (by omega) (by omega) h1 h2 h3
theorem fm_M_lt {j : Nat} {a b c : Int} (hj : j < n) : fm_M (sn_up K n k) (sn_up L n l) (sn_up R n r) a b c j ↔ fm_M K L R a b c j := by
  unfold fm_M
  rw [sn_up_ne _ (by omega), sn_up_ne _ (by omega), sn_up_ne _ (by omega)]
theorem fm_M_eq {a b c : Int} : fm_M (sn_up K n k) (sn_up L n l) (sn_up R n r) a b c n ↔ (k = a ∧ l = b ∧ r = c) := by
  unfold fm_M
  rw [sn_up_at, sn_up_at, sn_up_at]
theorem fm_F_grow {a b c y : Int} (h : fm_F K L R n a b c y) (hne : ¬ (k = a ∧ l = b ∧ r = c)) : fm_F (sn_up K n k) (sn_up L n l) (sn_up R n r) (n + 1) a b c y := by
  rcases h with ⟨h1, h2⟩ | ⟨j, hj, h1, h2⟩
  · refine Or.inl ⟨h1, fun j hj => ?_⟩
    by_cases e : j = n
    · subst e; exact fun z => hne (fm_M_eq.mp z)
    · exact fun z => h2 j (by omega) ((fm_M_lt (by omega)).mp z)
  · exact Or.inr ⟨j, by omega, h1, (fm_M_lt hj).mpr h2⟩
theorem fm_F_shrink {a b c y : Int} (h : fm_F (sn_up K n k) (sn_up L n l) (sn_up R n r) (n + 1) a b c y) (hne : ¬ (k = a ∧ l = b ∧ r = c)) : fm_F K L R n a b c y := by
  rcases h with ⟨h1, h2⟩ | ⟨j, hj, h1, h2⟩
  · exact Or.inl ⟨h1, fun j hj z => h2 j (by omega) ((fm_M_lt hj).mpr z)⟩
  · by_cases e : j = n
    · subst e; exact absurd (fm_M_eq.mp h2) hne
    · exact Or.inr ⟨j, by omega, h1, (fm_M_lt (by omega)).mp h2⟩
/-- the dual of the new formula has none yet -/
theorem dx_none (hw : tb_w K L R n) (hd : dp_ok K L R n d) (hi : d_inv n d) (hn : tb_new K L R n k l r) (hx : dx_is K L R n d k l r x) (h0 : 0 ≤ x) : x < (n : Int) ∧ d x.toNat = -1 ∧ (k = 0 → K x.toNat = 0 ∧ L x.toNat = l ∧ R x.toNat = 1 - r) ∧ (¬ k = 0 → (0 ≤ d l.toNat ∧ 0 ≤ d r.toNat) ∧ K x.toNat = 3 - k ∧ L x.toNat = d l.toNat ∧ R x.toNat = d r.toNat) := by
  have hno : ∀ {a b c y : Int}, fm_F K L R n a b c y → a = k → b = l → c = r → y = -1 := by
    intro a b c y hf e1 e2 e3
    subst e1; subst e2; subst e3
    rcases hf with ⟨h, -⟩ | ⟨j, hj, -, hm⟩
    · exact h
    · exact absurd hm (hn.2 j hj)
  by_cases hk : k = 0
  · rcases hx.1 hk with ⟨h1, -⟩ | ⟨j, hj, rfl, m1, m2, m3⟩
    · omega
    · have hjj : ((j : Int)).toNat = j := rfl
      refine ⟨by omega, ?_, fun _ => ⟨m1, m2, m3⟩, fun z => absurd hk z⟩
      exact hno ((hd j hj).1 m1) hk.symm m2 (by rw [hjj] at *; omega)
  · obtain ⟨h1, h2⟩ := hx.2 hk
    by_cases hc : d l.toNat < 0 ∨ d r.toNat < 0
    · have := h1 hc; omega
    · have hl0 : 0 ≤ d l.toNat := by omega
      have hr0 : 0 ≤ d r.toNat := by omega
      rcases hn.1 with ⟨hz, -⟩ | ⟨hk12, hl, hr⟩
      · exact absurd hz hk
      · rcases h2 hl0 hr0 with ⟨h3, -⟩ | ⟨j, hj, rfl, m1, m2, m3⟩
        · omega
        · have hjj : ((j : Int)).toNat = j := rfl
          refine ⟨by omega, ?_, fun z => absurd z hk, fun _ => ⟨⟨hl0, hr0⟩, m1, m2, m3⟩⟩
          have il := hi l.toNat (by omega) hl0
          have ir := hi r.toNat (by omega) hr0
          obtain ⟨g1, g2⟩ := (hd j hj).2 (by omega)
          rw [m2, m3, il, ir] at g2
          exact hno (g2 (by omega) (by omega)) (by rw [m1]; omega) (by omega) (by omega)
theorem dx_d_n (hx1 : x < (n : Int)) (hx0 : -1 ≤ x) : dx_d d n x n = x := by
  unfold dx_d
  split
  · exact sn_up_at _ _ _
  · rw [sn_up_ne _ (by omega), sn_up_at]
theorem dx_d_x (hx0 : 0 ≤ x) : dx_d d n x x.toNat = (n : Int) := by
  unfold dx_d
  rw [if_neg (by omega), sn_up_at]
theorem dx_d_o {f : Nat} (h3 : -1 ≤ x) (h1 : f ≠ n) (h2 : (f : Int) ≠ x) : dx_d d n x f = d f := by
  unfold dx_d
  split
  · exact sn_up_ne _ h1
  · rw [sn_up_ne _ (by omega), sn_up_ne _ h1]
theorem tb_add_d (hw : tb_w K L R n) (hu : tb_u K L R n) (hd : dp_ok K L R n d) (hi : d_inv n d) (hn : tb_new K L R n k l r) (hx : dx_is K L R n d k l r x) : dp_ok (sn_up K n k) (sn_up L n l) (sn_up R n r) (n + 1) (dx_d d n x) ∧ d_inv (n + 1) (dx_d d n x) := by
  have hxb : -1 ≤ x ∧ x < (n : Int) := by
    by_cases hk : k = 0
    · exact fm_F_b (hx.1 hk)
    · obtain ⟨h1, h2⟩ := hx.2 hk
      by_cases hc : d l.toNat < 0 ∨ d r.toNat < 0
      · rw [h1 hc]; omega
      · exact fm_F_b (h2 (by omega) (by omega))
  have xn := fun h0 => dx_none hw hd hi hn hx h0
  constructor
  · intro f hf
    by_cases e : f = n
    · subst e
      refine ⟨fun hk => ?_, fun hk => ?_⟩
      · rw [sn_up_at] at hk
        rw [sn_up_at, sn_up_at, dx_d_n hxb.2 hxb.1]
        refine fm_F_grow (hx.1 hk) (fun z => ?_)
        omega
      · rw [sn_up_at] at hk
        rw [sn_up_at, sn_up_at, sn_up_at, dx_d_n hxb.2 hxb.1]
        rcases hn.1 with ⟨hz, -⟩ | ⟨hk12, hl, hr⟩
        · exact absurd hz hk
        · obtain ⟨h1, h2⟩ := hx.2 hk
          have ol : dx_d d f x l.toNat = d l.toNat ∨ (0 ≤ x ∧ l = x) := by
            by_cases e : l = x
            · exact Or.inr ⟨by omega, e⟩
            · exact Or.inl (dx_d_o hxb.1 (by omega) (by omega))
          have or' : dx_d d f x r.toNat = d r.toNat ∨ (0 ≤ x ∧ r = x) := by
            by_cases e : r = x
            · exact Or.inr ⟨by omega, e⟩
            · exact Or.inl (dx_d_o hxb.1 (by omega) (by omega))
          have nl : ¬ (0 ≤ x ∧ l = x) := by
            rintro ⟨a, b⟩
            obtain ⟨-, b1, -, b2⟩ := xn a
            have := (b2 hk).1.1
            rw [b] at this
            omega
          have nr : ¬ (0 ≤ x ∧ r = x) := by
            rintro ⟨a, b⟩
            obtain ⟨-, b1, -, b2⟩ := xn a
            have := (b2 hk).1.2
            rw [b] at this
            omega
          have el : dx_d d f x l.toNat = d l.toNat := by rcases ol with z | z; exact z; exact absurd z nl
          have er : dx_d d f x r.toNat = d r.toNat := by rcases or' with z | z; exact z; exact absurd z nr
          rw [el, er]
          refine ⟨h1, fun z1 z2 => fm_F_grow (h2 z1 z2) (fun z => ?_)⟩
          omega
    · have hfn : f < n := by omega
      have hdf := hd f hfn
      refine ⟨fun hk => ?_, fun hk => ?_⟩
      · rw [sn_up_ne _ e] at hk
        rw [sn_up_ne _ e, sn_up_ne _ e]
        by_cases ex : (f : Int) = x
        · have h0 : 0 ≤ x := by omega
          obtain ⟨-, -, b1, b2⟩ := xn h0
          have ef : x.toNat = f := by omega
          rw [ef] at b1 b2
          have hk0 : k = 0 := by
            by_cases z : k = 0
            · exact z
            · have := (b2 z).2.1
              rcases hn.1 with ⟨y, -⟩ | ⟨y, -⟩
              · exact absurd y z
              · omega
          obtain ⟨c1, c2, c3⟩ := b1 hk0
          have e1 : dx_d d n x f = (n : Int) := by rw [← ef]; exact dx_d_x h0
          rw [e1]
          exact Or.inr ⟨n, by omega, rfl, fm_M_eq.mpr ⟨by omega, by omega, by omega⟩⟩
        · rw [dx_d_o hxb.1 e ex]
          refine fm_F_grow (hdf.1 hk) (fun z => ex ?_)
          obtain ⟨z1, z2, z3⟩ := z
          have q := hx.1 z1
          rcases q with ⟨-, q⟩ | ⟨j, hj, hj2, m1, m2, m3⟩
          · exact absurd ⟨by omega, by omega, by omega⟩ (q f hfn)
          · have := hu f j hfn hj (by omega) (by omega) (by omega)
            omega
      · rw [sn_up_ne _ e] at hk
        rw [sn_up_ne _ e, sn_up_ne _ e, sn_up_ne _ e]
        rcases hw f hfn with ⟨hz, -⟩ | ⟨hk12, hl, hr⟩
        · exact absurd hz hk
        · obtain ⟨h1, h2⟩ := hdf.2 hk
          have noL : ∀ {a b c : Int}, (a = 1 ∨ a = 2) → (b = (n : Int) ∨ c = (n : Int)) → ∀ j, j < n + 1 → ¬ fm_M (sn_up K n k) (sn_up L n l) (sn_up R n r) a b c j := by
            intro a b c ha hbc j hj z
            by_cases ej : j = n
            · subst ej
              obtain ⟨z1, z2, z3⟩ := fm_M_eq.mp z
              rcases hn.1 with ⟨y, -⟩ | ⟨y, yl, yr⟩ <;> omega
            · obtain ⟨z1, z2, z3⟩ := (fm_M_lt (by omega)).mp z
              rcases hw j (by omega) with ⟨y, -⟩ | ⟨y, yl, yr⟩ <;> omega
          by_cases ea : L f = x ∨ R f = x
          · have h0 : 0 ≤ x := by omega
            obtain ⟨-, b1, -, -⟩ := xn h0
            have hdm : d f = -1 := by
              refine h1 ?_
              rcases ea with z | z
              · exact Or.inl (by rw [z, b1]; decide)
              · exact Or.inr (by rw [z, b1]; decide)
            have efx : (f : Int) ≠ x := by omega
            rw [dx_d_o hxb.1 e efx, hdm]
            refine ⟨fun _ => rfl, fun z1 z2 => Or.inl ⟨rfl, noL (by omega) ?_⟩⟩
            rcases ea with z | z
            · exact Or.inl (by rw [z]; exact dx_d_x h0)
            · exact Or.inr (by rw [z]; exact dx_d_x h0)
          · have el : dx_d d n x (L f).toNat = d (L f).toNat := dx_d_o hxb.1 (by omega) (by omega)
            have er : dx_d d n x (R f).toNat = d (R f).toNat := dx_d_o hxb.1 (by omega) (by omega)
            rw [el, er]
            by_cases ex : (f : Int) = x
            · have h0 : 0 ≤ x := by omega
              obtain ⟨-, -, b1, b2⟩ := xn h0
              have ef : x.toNat = f := by omega
              rw [ef] at b1 b2
              have hk0 : ¬ k = 0 := fun z => hk (b1 z).1
              obtain ⟨⟨c0, c0'⟩, c1, c2, c3⟩ := b2 hk0
              rcases hn.1 with ⟨y, -⟩ | ⟨y, yl, yr⟩
              · exact absurd y hk0
              · have il := hi l.toNat (by omega) c0
                have ir := hi r.toNat (by omega) c0'
                rw [← c2] at il
                rw [← c3] at ir
                have e1 : dx_d d n x f = (n : Int) := by rw [← ef]; exact dx_d_x h0
                rw [e1, il, ir]
                refine ⟨fun z => by omega, fun _ _ => Or.inr ⟨n, by omega, rfl, fm_M_eq.mpr ⟨by omega, by omega, by omega⟩⟩⟩
            · rw [dx_d_o hxb.1 e ex]
              refine ⟨h1, fun z1 z2 => fm_F_grow (h2 z1 z2) (fun z => ex ?_)⟩
              obtain ⟨y1, y2, y3⟩ := z
              have hk0 : ¬ k = 0 := by omega
              have il := hi (L f).toNat (by omega) z1
              have ir := hi (R f).toNat (by omega) z2
              rw [← y2] at il
              rw [← y3] at ir
              obtain ⟨-, g2⟩ := hx.2 hk0
              rw [il, ir] at g2
              rcases g2 (by omega) (by omega) with ⟨-, q⟩ | ⟨j, hj, hj2, m1, m2, m3⟩
              · exact absurd ⟨by omega, by omega, by omega⟩ (q f hfn)
              · have := hu f j hfn hj (by omega) (by omega) (by omega)
                omega
  · intro f hf h0
    by_cases e : f = n
    · subst e
      rw [dx_d_n hxb.2 hxb.1] at h0 ⊢
      rw [dx_d_x h0]
    · by_cases ex : (f : Int) = x
      · have ef : x.toNat = f := by omega
        have e1 : dx_d d n x f = (n : Int) := by rw [← ef]; exact dx_d_x (by omega)
        rw [e1]
        show dx_d d n x n = (f : Int)
        rw [dx_d_n hxb.2 hxb.1]
        omega
      · rw [dx_d_o hxb.1 e ex] at h0 ⊢
        have hdb := dp_b (hd f (by omega))
        have hiv := hi f (by omega) h0
        by_cases egx : d f = x
        · have := (xn (by omega)).2.1
          rw [← egx] at this
          rw [hiv] at this
          omega
        · rw [dx_d_o hxb.1 (by omega) (by omega)]
          exact hiv
end TA
