/-! The parts of a formula in their order; its atoms. -/
def pst (T : fT) : Nat → Nat → List Nat
  | 0, _ => []
  | d + 1, f => if T.1 0 f = 0 then [f] else pst T d (T.1 1 f).toNat ++ pst T d (T.1 2 f).toNat ++ [f]
theorem pst_s (T : fT) (d f : Nat) : pst T (d + 1) f = if T.1 0 f = 0 then [f] else pst T d (T.1 1 f).toNat ++ pst T d (T.1 2 f).toNat ++ [f] := rfl
def pp (T : fT) (f : Nat) : List Nat := pst T (f + 1) f
theorem tb_lr {T : fT} (hT : fT_ok T) {f : Nat} (hf : f < T.2) (hk : ¬ T.1 0 f = 0) : (T.1 0 f = 1 ∨ T.1 0 f = 2) ∧ (0 ≤ T.1 1 f ∧ (T.1 1 f).toNat < f ∧ T.1 1 f = ((T.1 1 f).toNat : Int)) ∧ (0 ≤ T.1 2 f ∧ (T.1 2 f).toNat < f ∧ T.1 2 f = ((T.1 2 f).toNat : Int)) := by
  rcases hT.1 f hf with ⟨z, -⟩ | ⟨z, z1, z2⟩
  · exact absurd z hk
  · exact ⟨z, by omega, by omega⟩
theorem pst_fu {T : fT} (hT : fT_ok T) : ∀ {f : Nat} {d : Nat}, f < T.2 → f < d → pst T d f = pp T f := by
  intro f
  induction f using Nat.strongRecOn with
  | ind f ih =>
    intro d hf hd
    obtain ⟨d, rfl⟩ : ∃ e, d = e + 1 := ⟨d - 1, by omega⟩
    unfold pp
    rw [pst_s, pst_s]
    by_cases k : T.1 0 f = 0
    · rw [if_pos k, if_pos k]
    · obtain ⟨-, l, r⟩ := tb_lr hT hf k
      rw [if_neg k, if_neg k, ih _ l.2.1 (d := d) (by omega) (by omega), ih _ r.2.1 (d := d) (by omega) (by omega), ih _ l.2.1 (d := f) (by omega) (by omega), ih _ r.2.1 (d := f) (by omega) (by omega)]
theorem pp_a {T : fT} {f : Nat} (k : T.1 0 f = 0) : pp T f = [f] := by
  unfold pp
  rw [pst_s, if_pos k]
theorem pp_j {T : fT} (hT : fT_ok T) {f : Nat} (hf : f < T.2) (k : ¬ T.1 0 f = 0) : pp T f = pp T (T.1 1 f).toNat ++ pp T (T.1 2 f).toNat ++ [f] := by
  obtain ⟨-, l, r⟩ := tb_lr hT hf k
  show pst T (f + 1) f = _
  rw [pst_s, if_neg k, pst_fu hT (f := (T.1 1 f).toNat) (d := f) (by omega) l.2.1, pst_fu hT (f := (T.1 2 f).toNat) (d := f) (by omega) r.2.1]
/-- to prove something of a formula, prove it of its parts -/
theorem f_ind {T : fT} (hT : fT_ok T) {P : Nat → Prop} (ha : ∀ f, f < T.2 → T.1 0 f = 0 → P f) (hj : ∀ f, f < T.2 → ¬ T.1 0 f = 0 → P (T.1 1 f).toNat → P (T.1 2 f).toNat → P f) : ∀ f, f < T.2 → P f := by
  intro f
  induction f using Nat.strongRecOn with
  | ind f ih =>
    intro hf
    by_cases k : T.1 0 f = 0
    · exact ha f hf k
    · obtain ⟨-, l, r⟩ := tb_lr hT hf k
      exact hj f hf k (ih _ l.2.1 (by omega)) (ih _ r.2.1 (by omega))
def lf (T : fT) (f : Nat) : List Nat := (pp T f).filter (fun g => decide (T.1 0 g = 0))
theorem lf_a {T : fT} {f : Nat} (k : T.1 0 f = 0) : lf T f = [f] := by
  unfold lf
  rw [pp_a k, List.filter_cons_of_pos (p := fun g => decide (T.1 0 g = 0)) (decide_eq_true k)]
  rfl
theorem lf_j {T : fT} (hT : fT_ok T) {f : Nat} (hf : f < T.2) (k : ¬ T.1 0 f = 0) : lf T f = lf T (T.1 1 f).toNat ++ lf T (T.1 2 f).toNat := by
  unfold lf
  rw [pp_j hT hf k, List.filter_append, List.filter_append, List.filter_cons_of_neg (by rw [decide_eq_true_eq]; exact k), List.filter_nil, List.append_nil]
theorem pp_lt {T : fT} (hT : fT_ok T) : ∀ f, f < T.2 → ∀ g ∈ pp T f, g < T.2 := by
  refine f_ind hT (P := fun f => ∀ g ∈ pp T f, g < T.2) (fun f hf k g hg => ?_) (fun f hf k h1 h2 g hg => ?_)
  · rw [pp_a k] at hg
    rw [List.mem_singleton.mp hg]
    exact hf
  · rw [pp_j hT hf k] at hg
    rcases List.mem_append.mp hg with hg | hg
    · rcases List.mem_append.mp hg with hg | hg
      · exact h1 g hg
      · exact h2 g hg
    · rw [List.mem_singleton.mp hg]
      exact hf
theorem lf_in {T : fT} (hT : fT_ok T) {f : Nat} (hf : f < T.2) {g : Nat} (hg : g ∈ lf T f) : g < T.2 ∧ T.1 0 g = 0 := by
  obtain ⟨h1, h2⟩ := List.mem_filter.mp hg
  exact ⟨pp_lt hT f hf g h1, of_decide_eq_true h2⟩
theorem lf_pos {T : fT} (hT : fT_ok T) : ∀ f, f < T.2 → 1 ≤ (lf T f).length := by
  refine f_ind hT (P := fun f => 1 ≤ (lf T f).length) (fun f hf k => ?_) (fun f hf k h1 h2 => ?_)
  · rw [lf_a k]
    exact Nat.le_refl _
  · rw [lf_j hT hf k, List.length_append]
    omega
theorem pp_len {T : fT} (hT : fT_ok T) : ∀ f, f < T.2 → (pp T f).length + 1 = 2 * (lf T f).length := by
  refine f_ind hT (P := fun f => (pp T f).length + 1 = 2 * (lf T f).length) (fun f hf k => ?_) (fun f hf k h1 h2 => ?_)
  · rw [pp_a k, lf_a k]
    rfl
  · rw [pp_j hT hf k, lf_j hT hf k, List.length_append, List.length_append, List.length_append, List.length_singleton]
    omega
theorem oc_lf {T : fT} (hT : fT_ok T) : ∀ f, f < T.2 → T.1 4 f = if 9 < (lf T f).length then 9 else ((lf T f).length : Int) := by
  refine f_ind hT (P := fun f => T.1 4 f = if 9 < (lf T f).length then 9 else ((lf T f).length : Int)) (fun f hf k => ?_) (fun f hf k h1 h2 => ?_)
  · rw [lf_a k, (hT.2.2.2.2 f hf).1 k]
    rfl
  · obtain ⟨-, l, r⟩ := tb_lr hT hf k
    have p1 := lf_pos hT (T.1 1 f).toNat (by omega)
    have p2 := lf_pos hT (T.1 2 f).toNat (by omega)
    rw [(hT.2.2.2.2 f hf).2 k, h1, h2, lf_j hT hf k, List.length_append]
    unfold oc_mn
    by_cases c1 : 9 < (lf T (T.1 1 f).toNat).length
    · rw [if_pos c1]
      by_cases c2 : 9 < (lf T (T.1 2 f).toNat).length
      · rw [if_pos c2, if_pos (by decide), if_pos (by omega)]
      · rw [if_neg c2, if_pos (by omega), if_pos (by omega)]
    · rw [if_neg c1]
      by_cases c2 : 9 < (lf T (T.1 2 f).toNat).length
      · rw [if_pos c2, if_pos (by omega), if_pos (by omega)]
      · rw [if_neg c2]
        by_cases c3 : 9 < (lf T (T.1 1 f).toNat).length + (lf T (T.1 2 f).toNat).length
        · rw [if_pos (by omega), if_pos c3]
        · rw [if_neg (by omega), if_neg c3]
          omega
/-- tensors -/
def tn (T : fT) (L : List Nat) : Nat := (L.filter (fun g => decide (T.1 0 g = 1))).length
theorem tn_a (T : fT) (A B : List Nat) : tn T (A ++ B) = tn T A + tn T B := by
  unfold tn
  rw [List.filter_append, List.length_append]
/-- the atoms fit: same letter, other sign -/
def fit (T : fT) (A : List Nat) (k p : Nat) : Bool := decide (T.1 1 (A.getD k 0) = T.1 1 (A.getD p 0) ∧ ¬ T.1 2 (A.getD k 0) = T.1 2 (A.getD p 0))
theorem getD_in {A : List Nat} {k : Nat} (h : k < A.length) : A.getD k 0 ∈ A ∧ A[k]? = some (A.getD k 0) := by
  rw [List.getD_eq_getElem?_getD, List.getElem?_eq_getElem h]
  exact ⟨List.getElem_mem h, rfl⟩
theorem at_ok {T : fT} (hT : fT_ok T) {f : Nat} (hf : f < T.2) (k : Nat) : (lf T f).getD k 0 < T.2 ∧ T.1 0 ((lf T f).getD k 0) = 0 := by
  by_cases h : k < (lf T f).length
  · exact lf_in hT hf (getD_in h).1
  · rw [List.getD_eq_getElem?_getD, List.getElem?_eq_none (by omega)]
    refine ⟨show 0 < T.2 by omega, ?_⟩
    show T.1 0 0 = 0
    rcases hT.1 0 (by omega) with ⟨z, -⟩ | ⟨-, z, -⟩
    · exact z
    · omega
theorem fit_du {T : fT} (hT : fT_ok T) {f : Nat} (hf : f < T.2) (k p : Nat) : fit T (lf T f) k p = true ↔ T.1 3 ((lf T f).getD k 0) = ((lf T f).getD p 0 : Int) := by
  obtain ⟨k1, k2⟩ := at_ok hT hf k
  obtain ⟨p1, p2⟩ := at_ok hT hf p
  unfold fit
  rw [decide_eq_true_eq]
  generalize (lf T f).getD k 0 = a at *
  generalize (lf T f).getD p 0 = b at *
  have wa := hT.1 a k1
  have wb := hT.1 b p1
  have d := (hT.2.2.1 a k1).1 k2
  constructor
  · rintro ⟨h1, h2⟩
    rcases d with ⟨-, d⟩ | ⟨j, hj, e, m1, m2, m3⟩
    · exact absurd ⟨p2, h1.symm, by omega⟩ (d b p1)
    · rw [e]
      have := hT.2.1 j b hj p1 (m1.trans p2.symm) (m2.trans h1) (by omega)
      rw [this]
  · intro h
    rcases d with ⟨e, -⟩ | ⟨j, hj, e, m1, m2, m3⟩
    · omega
    · have : j = b := by omega
      subst this
      exact ⟨m2.symm, by omega⟩
theorem fit_sy (T : fT) (A : List Nat) (k p : Nat) : fit T A k p = fit T A p k := by
  unfold fit
  rw [decide_eq_decide]
  exact ⟨fun h => ⟨h.1.symm, fun z => h.2 z.symm⟩, fun h => ⟨h.1.symm, fun z => h.2 z.symm⟩⟩
/-- growing tables leave all this as it is -/
theorem pst_g {T T' : fT} (hT : fT_ok T) (h1 : ∀ a g, a ≠ 3 → g < T.2 → T'.1 a g = T.1 a g) : ∀ d f, f < T.2 → pst T' d f = pst T d f := by
  intro d
  induction d with
  | zero => intro f _; rfl
  | succ d ih =>
    intro f hf
    rw [pst_s, pst_s, h1 0 f (by decide) hf]
    by_cases k : T.1 0 f = 0
    · rw [if_pos k, if_pos k]
    · obtain ⟨-, l, r⟩ := tb_lr hT hf k
      rw [if_neg k, if_neg k, h1 1 f (by decide) hf, h1 2 f (by decide) hf, ih _ (by omega), ih _ (by omega)]
theorem pp_g {T T' : fT} (hT : fT_ok T) (h1 : ∀ a g, a ≠ 3 → g < T.2 → T'.1 a g = T.1 a g) (f : Nat) (hf : f < T.2) : pp T' f = pp T f := pst_g hT h1 (f + 1) f hf
theorem lf_g {T T' : fT} (hT : fT_ok T) (h1 : ∀ a g, a ≠ 3 → g < T.2 → T'.1 a g = T.1 a g) (f : Nat) (hf : f < T.2) : lf T' f = lf T f := by
  unfold lf
  rw [pp_g hT h1 f hf]
  refine List.filter_congr (fun g hg => ?_)
  rw [h1 0 g (by decide) (pp_lt hT f hf g hg)]
theorem fit_g {T T' : fT} (hT : fT_ok T) (h1 : ∀ a g, a ≠ 3 → g < T.2 → T'.1 a g = T.1 a g) {f : Nat} (hf : f < T.2) (k p : Nat) : fit T' (lf T f) k p = fit T (lf T f) k p := by
  have a := (at_ok hT hf k).1
  have b := (at_ok hT hf p).1
  unfold fit
  rw [h1 1 _ (by decide) a, h1 1 _ (by decide) b, h1 2 _ (by decide) a, h1 2 _ (by decide) b]
theorem fit_r {T : fT} (hT : fT_ok T) {f : Nat} (hf : f < T.2) (k p : Nat) (h : fit T (lf T f) k p = true) : decide (T.1 2 ((lf T f).getD k 0) = 1) = !decide (T.1 2 ((lf T f).getD p 0) = 1) := by
  obtain ⟨k1, k2⟩ := at_ok hT hf k
  obtain ⟨p1, p2⟩ := at_ok hT hf p
  unfold fit at h
  rw [decide_eq_true_eq] at h
  generalize (lf T f).getD k 0 = a at *
  generalize (lf T f).getD p 0 = b at *
  have wa := hT.1 a k1
  have wb := hT.1 b p1
  by_cases c : T.1 2 a = 1
  · rw [decide_eq_true c, decide_eq_false (by omega)]
    rfl
  · rw [decide_eq_false c, decide_eq_true (by omega)]
    rfl
