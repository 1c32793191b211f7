/-! A structure that is judged a net: what that says of its links. -/
def sA (S : sT) : List Nat := (List.range S.2.1).filter (fun l => decide (0 ≤ S.1 0 l))
def sE (S : sT) : List (Nat × Nat) := cs_B (S.1 0) (S.1 1) (S.1 2) (S.1 5) S.2.1
def sQ (S : sT) : List (Nat × Nat × Nat) := (cs_pl (S.1 0) S.2.1).map (fun k => (k, (S.1 5 (S.1 1 k).toNat).toNat, (S.1 5 (S.1 2 k).toNat).toNat))
theorem sA_in {S : sT} {l : Nat} : l ∈ sA S ↔ l < S.2.1 ∧ 0 ≤ S.1 0 l := by
  unfold sA
  rw [List.mem_filter, List.mem_range]
  exact and_congr_right (fun _ => ⟨fun h => of_decide_eq_true h, fun h => decide_eq_true h⟩)
theorem sA_nd (S : sT) : (sA S).Nodup := List.Pairwise.filter _ List.nodup_range
theorem sA_len (S : sT) : ((sA S).length : Int) = cn_ct (S.1 0) (-1) S.2.1 := by
  unfold sA
  generalize S.2.1 = n
  induction n with
  | zero => rfl
  | succ n ih =>
    rw [List.range_succ, List.filter_append, List.length_append, cn_ct_s]
    by_cases h : 0 ≤ S.1 0 n
    · rw [if_pos ⟨h, Or.inl (by decide)⟩, List.filter_cons_of_pos (by simpa using h)]
      simp only [List.filter_nil, List.length_cons, List.length_nil]
      omega
    · rw [if_neg (fun z => h z.1), List.filter_cons_of_neg (by simpa using h)]
      simp only [List.filter_nil, List.length_nil]
      omega
theorem cs_B_in {kd lf rt fr : Nat → Int} {e : Nat × Nat} : ∀ {n : Nat}, e ∈ cs_B kd lf rt fr n ↔ ∃ l, l < n ∧ (kd l = 1 ∨ kd l = 3) ∧ (e = ((fr (lf l).toNat).toNat, l) ∨ e = ((fr (rt l).toNat).toNat, l)) := by
  intro n
  induction n with
  | zero => exact ⟨fun h => (by cases h), fun ⟨l, h, _⟩ => absurd h (Nat.not_lt_zero l)⟩
  | succ n ih =>
    rw [cs_B_s, List.mem_append, ih]
    constructor
    · rintro (⟨l, h1, h2⟩ | h)
      · exact ⟨l, by omega, h2⟩
      · split at h
        · next hk =>
          rcases List.mem_cons.mp h with h | h
          · exact ⟨n, by omega, hk, Or.inl h⟩
          · exact ⟨n, by omega, hk, Or.inr (List.mem_singleton.mp h)⟩
        · cases h
    · rintro ⟨l, h1, h2, h3⟩
      by_cases z : l = n
      · subst z
        right
        rw [if_pos h2]
        rcases h3 with h | h
        · rw [h]; exact List.mem_cons_self
        · rw [h]; exact List.mem_cons_of_mem _ List.mem_cons_self
      · exact Or.inl ⟨l, by omega, h2, h3⟩
theorem cs_pm {kd : Nat → Int} {k : Nat} : ∀ {n : Nat}, k ∈ cs_pl kd n ↔ k < n ∧ kd k = 2 := by
  intro n
  induction n with
  | zero => exact ⟨fun h => (by cases h), fun h => absurd h.1 (Nat.not_lt_zero k)⟩
  | succ n ih =>
    rw [cs_pl_s, List.mem_append, ih]
    constructor
    · rintro (⟨h1, h2⟩ | h)
      · exact ⟨by omega, h2⟩
      · split at h
        · next hk =>
          obtain rfl := List.mem_singleton.mp h
          exact ⟨by omega, hk⟩
        · cases h
    · rintro ⟨h1, h2⟩
      by_cases z : k = n
      · subst z
        right
        rw [if_pos h2]
        exact List.mem_cons_self
      · exact Or.inl ⟨by omega, h2⟩
theorem sQ_kn (S : sT) : kn (sQ S) := by
  unfold kn sQ
  rw [List.pairwise_map]
  exact cs_pl_nd _ _
theorem sE_in {S : sT} {e : Nat × Nat} : e ∈ sE S ↔ ∃ l, l < S.2.1 ∧ (S.1 0 l = 1 ∨ S.1 0 l = 3) ∧ (e = ((S.1 5 (S.1 1 l).toNat).toNat, l) ∨ e = ((S.1 5 (S.1 2 l).toNat).toNat, l)) := cs_B_in
theorem sQ_in {S : sT} {q : Nat × Nat × Nat} : q ∈ sQ S ↔ ∃ k, k < S.2.1 ∧ S.1 0 k = 2 ∧ q = (k, (S.1 5 (S.1 1 k).toNat).toNat, (S.1 5 (S.1 2 k).toNat).toNat) := by
  unfold sQ
  rw [List.mem_map]
  constructor
  · rintro ⟨k, h1, h2⟩
    obtain ⟨a, b⟩ := cs_pm.mp h1
    exact ⟨k, a, b, h2.symm⟩
  · rintro ⟨k, h1, h2, h3⟩
    exact ⟨k, cs_pm.mpr ⟨h1, h2⟩, h3.symm⟩
/-- where a premise comes from is a link that stands -/
theorem s_src {T : fT} {S : sT} (h : s_ok T S) {l : Nat} (hl : l < S.2.1) (hk : 1 ≤ S.1 0 l) : ((S.1 5 (S.1 1 l).toNat).toNat ∈ sA S ∧ 0 ≤ S.1 5 (S.1 1 l).toNat) ∧ ((S.1 5 (S.1 2 l).toNat).toNat ∈ sA S ∧ 0 ≤ S.1 5 (S.1 2 l).toNat) := by
  obtain ⟨a1, a2, -⟩ := (h.2.1 l hl).2.2.1 hk
  have side : ∀ x, s_al S x → (S.1 5 x.toNat).toNat ∈ sA S ∧ 0 ≤ S.1 5 x.toNat := by
    intro x hx
    have w := h.2.2.1 x.toNat (by have := hx.1; have := hx.2.1; omega)
    have w1 := w.2.2.2.1
    have w2 := (w.2.2.2.2 hx.2.2).1
    refine ⟨sA_in.mpr ⟨by omega, ?_⟩, w1.1⟩
    rcases w2 with z | z | z <;> omega
  exact ⟨side _ a1, side _ a2⟩
theorem bits (ch : Nat → Bool) : ∀ (L : List Nat), ∃ s, s < 2 ^ L.length ∧ ∀ k l, L[k]? = some l → (s / 2 ^ k % 2 = 1 ↔ ch l = true) := by
  intro L
  induction L with
  | nil => exact ⟨0, by simp, fun k l h => by simp at h⟩
  | cons a t ih =>
    obtain ⟨s, h1, h2⟩ := ih
    refine ⟨2 * s + (if ch a then 1 else 0), ?_, fun k l h => ?_⟩
    · rw [List.length_cons, Nat.pow_succ]
      split <;> omega
    · match k with
      | 0 =>
        have : a = l := by simpa using h
        subst this
        rw [Nat.pow_zero, Nat.div_one]
        cases ch a <;> simp <;> omega
      | k + 1 =>
        have h : t[k]? = some l := by simpa using h
        rw [← h2 k l h, Nat.pow_succ, Nat.mul_comm (2 ^ k) 2, ← Nat.div_div_eq_div_mul]
        have : (2 * s + (if ch a then 1 else 0)) / 2 = s := by split <;> omega
        rw [this]
theorem cs_Q_in {σ : sn_M} {i : Nat} {s : Int} {e : Nat × Nat} : ∀ {d : Nat}, e ∈ cs_Q σ i s d → e ∈ cs_B (σ.1 10 i) (σ.1 11 i) (σ.1 12 i) (σ.1 15 i) (σ.1 9 i 9).toNat ∨ ∃ k, d ≤ (cs_pars σ i).length → k < (cs_pars σ i).length ∧ e = cs_x σ i s k ((cs_pars σ i).getD k 0) := by
  intro d
  induction d with
  | zero => intro h; exact Or.inl h
  | succ d ih =>
    intro h
    rw [cs_Q_s] at h
    rcases List.mem_append.mp h with h | h
    · rcases ih h with h | ⟨k, h⟩
      · exact Or.inl h
      · exact Or.inr ⟨k, fun hd => h (by omega)⟩
    · exact Or.inr ⟨_, fun hd => ⟨by omega, List.mem_singleton.mp h⟩⟩
theorem cs_Q_len {σ : sn_M} {i : Nat} {s : Int} : ∀ d, (cs_Q σ i s d).length = (cs_B (σ.1 10 i) (σ.1 11 i) (σ.1 12 i) (σ.1 15 i) (σ.1 9 i 9).toNat).length + d := by
  intro d
  induction d with
  | zero => rfl
  | succ d ih => rw [cs_Q_s, List.length_append, ih]; rfl
theorem jd_all {g : Nat → Int} {x : Int} : ∀ {n : Nat}, jd_f g x n < 0 → ∀ s, s < n → g s ≠ x := by
  intro n
  induction n with
  | zero => intro _ s hs; exact absurd hs (Nat.not_lt_zero s)
  | succ n ih =>
    intro h s hs
    rw [jd_f_s] at h
    by_cases c : g n = x ∧ jd_f g x n < 0
    · rw [if_pos c] at h
      omega
    · rw [if_neg c] at h
      by_cases z : s = n
      · subst z
        exact fun y => c ⟨y, h⟩
      · exact ih h s (by omega)
theorem net_gd {T : fT} {S : sT} (hok : s_ok T S) {f : Int} (hV : s_V S 0 f) : gd (sA S) (sE S) (sQ S) := by
  obtain ⟨⟨hpos, -⟩, hv, -⟩ | ⟨-, hv, -⟩ := hV
  case inr => exact absurd hv (by decide)
  have hx := s_st_x S
  have r0 : (s_st S).1 10 0 = S.1 0 := hx.1 0 (by omega)
  have r1 : (s_st S).1 11 0 = S.1 1 := hx.1 1 (by omega)
  have r2 : (s_st S).1 12 0 = S.1 2 := hx.1 2 (by omega)
  have r5 : (s_st S).1 15 0 = S.1 5 := hx.1 5 (by omega)
  have e9 : (s_st S).1 9 0 9 = (S.2.1 : Int) := sx_9 hx (by omega)
  have e11 : (s_st S).1 9 0 11 = cn_ct (S.1 0) (-1) S.2.1 := sx_9 hx (by omega)
  have ep : cs_pars (s_st S) 0 = cs_pl (S.1 0) S.2.1 := by unfold cs_pars; rw [r0, e9]; rfl
  have eB : cs_B ((s_st S).1 10 0) ((s_st S).1 11 0) ((s_st S).1 12 0) ((s_st S).1 15 0) ((s_st S).1 9 0 9).toNat = sE S := by rw [r0, r1, r2, r5, e9]; rfl
  have g1 : ∀ s, s < cs_all (s_st S) 0 → cs_g (s_st S) 0 s ≠ 1 ∧ cs_g (s_st S) 0 s ≠ 2 := by
    unfold cs_v at hv
    split at hv
    · exact absurd hv (by decide)
    · next n1 =>
      split at hv
      · exact absurd hv (by decide)
      · next n2 => exact fun s hs => ⟨jd_all (by omega) s hs, jd_all (by omega) s hs⟩
  have lA := sA_len S
  rw [e11] at hpos
  -- one switching
  have one : ∀ s : Nat, s < cs_all (s_st S) 0 → (jn_run (cs_Q (s_st S) 0 (s : Int) (cs_pars (s_st S) 0).length) (fun x => x)).2 = (cs_Q (s_st S) 0 (s : Int) (cs_pars (s_st S) 0).length).length ∧ (sA S).length ≤ (cs_Q (s_st S) 0 (s : Int) (cs_pars (s_st S) 0).length).length + 1 := by
    intro s hs
    obtain ⟨n1, n2⟩ := g1 s hs
    unfold cs_g gr_v at n1 n2
    rw [e11] at n1 n2
    have hle := jn_le (cs_Q (s_st S) 0 (s : Int) (cs_pars (s_st S) 0).length) (fun x => x)
    split at n1
    · exact absurd rfl n1
    · next m1 =>
      rw [if_neg m1] at n2
      split at n2
      · exact absurd rfl n2
      · next m2 => exact ⟨by omega, by omega⟩
  have inA : ∀ (s : Nat) (e : Nat × Nat), e ∈ cs_Q (s_st S) 0 (s : Int) (cs_pars (s_st S) 0).length → e.1 ∈ sA S ∧ e.2 ∈ sA S := by
    intro s e he
    rcases cs_Q_in he with he | ⟨k, he⟩
    · rw [eB] at he
      obtain ⟨l, hl, hk, h⟩ := sE_in.mp he
      obtain ⟨⟨s1, -⟩, s2, -⟩ := s_src hok hl (by omega)
      rcases h with rfl | rfl
      · exact ⟨s1, sA_in.mpr ⟨hl, show 0 ≤ S.1 0 l by omega⟩⟩
      · exact ⟨s2, sA_in.mpr ⟨hl, show 0 ≤ S.1 0 l by omega⟩⟩
    · obtain ⟨hk, rfl⟩ := he (Nat.le_refl _)
      have hm : (cs_pars (s_st S) 0).getD k 0 ∈ cs_pars (s_st S) 0 := by
        rw [List.getD_eq_getElem?_getD, List.getElem?_eq_getElem hk]
        exact List.getElem_mem hk
      rw [ep] at hm
      obtain ⟨hl, hk2⟩ := cs_pm.mp hm
      rw [← ep] at hl hk2
      obtain ⟨⟨s1, -⟩, s2, -⟩ := s_src hok hl (by omega)
      unfold cs_x cs_w
      rw [r1, r2, r5]
      refine ⟨?_, sA_in.mpr ⟨hl, show 0 ≤ S.1 0 ((cs_pars (s_st S) 0).getD k 0) by omega⟩⟩
      show (S.1 5 (if _ then _ else _ : Int).toNat).toNat ∈ sA S
      split
      · exact s2
      · exact s1
  have lQ : (sQ S).length = (cs_pars (s_st S) 0).length := by unfold sQ; rw [List.length_map, ep]
  have all0 : 0 < cs_all (s_st S) 0 := Nat.pow_pos (by decide)
  refine ⟨sA_nd S, sQ_kn S, ?_, fun q hq => ?_, fun ch x hx' y hy' => ?_⟩
  · obtain ⟨j1, j2⟩ := one 0 all0
    rw [cs_Q_len, eB] at j1 j2
    obtain ⟨R, c1, c2⟩ := jn_cover (A := sA S) (cs_Q (s_st S) 0 ((0 : Nat) : Int) (cs_pars (s_st S) 0).length) (fun x => x) (sA S) (inA 0) (fun x hx => ⟨x, hx, rfl⟩)
    have : 0 < R.length := by
      have h0 : 0 < (sA S).length := by omega
      obtain ⟨a, ha⟩ := List.exists_mem_of_length_pos h0
      obtain ⟨y, hy, -⟩ := c1 a ha
      exact List.length_pos_of_mem hy
    rw [j1] at c2
    omega
  · obtain ⟨k, hk, hk2, rfl⟩ := sQ_in.mp hq
    obtain ⟨⟨s1, -⟩, s2, -⟩ := s_src hok hk (by omega)
    exact ⟨sA_in.mpr ⟨hk, show 0 ≤ S.1 0 k by omega⟩, s1, s2⟩
  · obtain ⟨s, hs, hb⟩ := bits ch (cs_pars (s_st S) 0)
    have hs' : s < cs_all (s_st S) 0 := hs
    obtain ⟨j1, j2⟩ := one s hs'
    refine cn_sub (fun e he => ?_) (cn_full (inA s) j1 j2 x hx' y hy')
    rcases cs_Q_in he with he | ⟨k, he⟩
    · rw [eB] at he
      exact List.mem_append_left _ he
    · obtain ⟨hk, rfl⟩ := he (Nat.le_refl _)
      have hget : (cs_pars (s_st S) 0)[k]? = some ((cs_pars (s_st S) 0).getD k 0) := by
        rw [List.getD_eq_getElem?_getD, List.getElem?_eq_getElem hk]
        rfl
      have hm : (cs_pars (s_st S) 0).getD k 0 ∈ cs_pl (S.1 0) S.2.1 := by
        rw [← ep]
        exact List.mem_of_getElem? hget
      obtain ⟨hl, hk2⟩ := cs_pm.mp hm
      have hb := hb k _ hget
      generalize (cs_pars (s_st S) 0).getD k 0 = l at *
      have hP8 := hok.2.2.2.2.2
      have hlen : ((cs_pars (s_st S) 0).length : Int) ≤ 8 := by rw [ep, cs_pl_l]; exact hP8
      have hsm : s < 2147483648 := by
        have : 2 ^ (cs_pars (s_st S) 0).length ≤ 2 ^ 8 := Nat.pow_le_pow_right (by decide) (by omega)
        omega
      have hbt := bt_s_nat hsm k
      refine List.mem_append_right _ (ce_in.mpr ⟨(l, (S.1 5 (S.1 1 l).toNat).toNat, (S.1 5 (S.1 2 l).toNat).toNat), sQ_in.mpr ⟨l, hl, hk2, rfl⟩, ?_⟩)
      unfold cs_x cs_w
      rw [r1, r2, r5]
      unfold bt_s at hbt
      show ((S.1 5 (if sn_and ((s : Int) / 2 ^ k) 1 = 1 then S.1 2 l else S.1 1 l).toNat).toNat, l) = (if ch l = true then (S.1 5 (S.1 2 l).toNat).toNat else (S.1 5 (S.1 1 l).toNat).toNat, l)
      by_cases c : ch l = true
      · rw [if_pos c, if_pos (hbt.mpr (hb.mpr c))]
      · rw [if_neg c, if_neg (fun z => c (hb.mp (hbt.mp z)))]
