/-! A linking of a formula's atoms as a structure. -/
def ox (g : Nat → Int) : Nat → Nat
  | 0 => 0
  | k + 1 => ox g k + (if (k : Int) < g k then 1 else 0)
theorem ox_s (g : Nat → Int) (k : Nat) : ox g (k + 1) = ox g k + (if (k : Int) < g k then 1 else 0) := rfl
theorem ox_le (g : Nat → Int) : ∀ n, ox g n ≤ n := by
  intro n
  induction n with
  | zero => exact Nat.le_refl _
  | succ n ih => rw [ox_s]; split <;> omega
theorem ox_mo (g : Nat → Int) {i j : Nat} (h : i ≤ j) : ox g i ≤ ox g j := by
  induction j with
  | zero => rw [show i = 0 by omega]; exact Nat.le_refl _
  | succ j ih =>
    by_cases e : i = j + 1
    · rw [e]; exact Nat.le_refl _
    · have := ih (by omega)
      rw [ox_s]
      omega
theorem ox_lt {g : Nat → Int} {i j : Nat} (h : i < j) (hi : (i : Int) < g i) : ox g i < ox g j := by
  have := ox_mo g (show i + 1 ≤ j by omega)
  rw [ox_s, if_pos hi] at this
  omega
/-- the edge of an atom -/
def ae (g : Nat → Int) (k : Nat) : Int := if (k : Int) < g k then 2 * (ox g k : Int) else 2 * (ox g (g k).toNat : Int) + 1
/-- all are linked, two by two -/
def mat (g : Nat → Int) (n : Nat) : Prop := ∀ j, j < n → ∃ q : Nat, g j = (q : Int) ∧ q < n ∧ q ≠ j ∧ g q = (j : Int)
theorem ae_b {g : Nat → Int} {n : Nat} (h : mat g n) {j : Nat} (hj : j < n) : 0 ≤ ae g j ∧ ae g j < 2 * (ox g n : Int) := by
  obtain ⟨q, h1, h2, h3, h4⟩ := h j hj
  unfold ae
  by_cases c : (j : Int) < g j
  · have := ox_lt hj c
    rw [if_pos c]
    omega
  · rw [if_neg c, h1, show ((q : Int)).toNat = q from rfl]
    have := ox_lt h2 (show (q : Int) < g q by omega)
    omega
theorem ae_u {g : Nat → Int} {n : Nat} (h : mat g n) {i j : Nat} (hi : i < n) (hj : j < n) (e : ae g i = ae g j) : i = j := by
  obtain ⟨q, h1, h2, h3, h4⟩ := h i hi
  obtain ⟨r, k1, k2, k3, k4⟩ := h j hj
  have key : ∀ x y : Nat, (x : Int) < g x → (y : Int) < g y → ox g x = ox g y → x = y := by
    intro x y hx hy e
    rcases Nat.lt_trichotomy x y with z | z | z
    · have := ox_lt z hx; omega
    · exact z
    · have := ox_lt z hy; omega
  unfold ae at e
  by_cases c : (i : Int) < g i <;> by_cases d : (j : Int) < g j
  · rw [if_pos c, if_pos d] at e
    exact key i j c d (by omega)
  · rw [if_pos c, if_neg d] at e
    omega
  · rw [if_neg c, if_pos d] at e
    omega
  · rw [if_neg c, if_neg d, h1, k1] at e
    have : q = r := key q r (by omega) (by omega) (by have e : 2 * (ox g q : Int) + 1 = 2 * (ox g r : Int) + 1 := e; omega)
    subst this
    omega
def axs (A : List Nat) (g : Nat → Int) (S : sT) : Nat → sT
  | 0 => S
  | k + 1 => if (k : Int) < g k then s_ax (axs A g S k) (A.getD k 0 : Int) (A.getD (g k).toNat 0 : Int) else axs A g S k
theorem axs_s (A : List Nat) (g : Nat → Int) (S : sT) (k : Nat) : axs A g S (k + 1) = if (k : Int) < g k then s_ax (axs A g S k) (A.getD k 0 : Int) (A.getD (g k).toNat 0 : Int) else axs A g S k := rfl
theorem axs_n (A : List Nat) (g : Nat → Int) (S : sT) : ∀ k, (axs A g (s_0 S) k).2.1 = ox g k ∧ (axs A g (s_0 S) k).2.2.1 = 2 * ox g k ∧ (axs A g (s_0 S) k).2.2.2 = 0 := by
  intro k
  induction k with
  | zero => exact ⟨rfl, rfl, rfl⟩
  | succ k ih =>
    rw [axs_s, ox_s]
    by_cases c : (k : Int) < g k
    · rw [if_pos c, if_pos c]
      refine ⟨?_, ?_, ih.2.2⟩
      · show (axs A g (s_0 S) k).2.1 + 1 = _
        rw [ih.1]
      · show (axs A g (s_0 S) k).2.2.1 + 2 = _
        rw [ih.2.1]
        omega
    · rw [if_neg c, if_neg c]
      exact ih
theorem axs_eq (A : List Nat) (g : Nat → Int) {S S' : sT} : ∀ k, s_eq (axs A g (s_0 S) k) (axs A g (s_0 S') k) := by
  intro k
  induction k with
  | zero => exact s_0_eq
  | succ k ih =>
    rw [axs_s, axs_s]
    by_cases c : (k : Int) < g k
    · rw [if_pos c, if_pos c]
      exact s_ax_eq _ _ ih
    · rw [if_neg c, if_neg c]
      exact ih
/-- what the axioms are -/
theorem axs_r {A : List Nat} {g : Nat → Int} {S : sT} : ∀ k : Nat, ∀ j : Nat, j < k → (j : Int) < g j → (axs A g (s_0 S) k).1 0 (ox g j) = 0 ∧ (axs A g (s_0 S) k).1 1 (ox g j) = 2 * (ox g j : Int) ∧ (axs A g (s_0 S) k).1 2 (ox g j) = 2 * (ox g j : Int) + 1 ∧ (axs A g (s_0 S) k).1 4 (2 * ox g j) = (A.getD j 0 : Int) ∧ (axs A g (s_0 S) k).1 4 (2 * ox g j + 1) = (A.getD (g j).toNat 0 : Int) ∧ (axs A g (s_0 S) k).1 6 (2 * ox g j) = -1 ∧ (axs A g (s_0 S) k).1 6 (2 * ox g j + 1) = -1 ∧ (axs A g (s_0 S) k).1 7 (2 * ox g j) = -1 ∧ (axs A g (s_0 S) k).1 7 (2 * ox g j + 1) = -1 := by
  intro k
  induction k with
  | zero => intro j hj; exact absurd hj (Nat.not_lt_zero j)
  | succ k ih =>
    intro j hj hg
    obtain ⟨n1, n2, -⟩ := axs_n A g S k
    rw [axs_s]
    by_cases c : (k : Int) < g k
    · rw [if_pos c]
      by_cases e : j = k
      · subst e
        refine ⟨?_, ?_, ?_, ?_, ?_, ?_, ?_, ?_, ?_⟩
        · show sn_up _ (axs A g (s_0 S) j).2.1 0 (ox g j) = _
          rw [n1, sn_up_at]
        · show sn_up _ (axs A g (s_0 S) j).2.1 ((axs A g (s_0 S) j).2.2.1 : Int) (ox g j) = _
          rw [n1, n2, sn_up_at]
          omega
        · show sn_up _ (axs A g (s_0 S) j).2.1 (((axs A g (s_0 S) j).2.2.1 : Int) + 1) (ox g j) = _
          rw [n1, n2, sn_up_at]
          omega
        · show sn_up (sn_up _ (axs A g (s_0 S) j).2.2.1 _) ((axs A g (s_0 S) j).2.2.1 + 1) _ (2 * ox g j) = _
          rw [n2, up2_1 (by omega)]
        · show sn_up (sn_up _ (axs A g (s_0 S) j).2.2.1 _) ((axs A g (s_0 S) j).2.2.1 + 1) _ (2 * ox g j + 1) = _
          rw [n2, sn_up_at]
        · show sn_up (sn_up _ (axs A g (s_0 S) j).2.2.1 _) ((axs A g (s_0 S) j).2.2.1 + 1) _ (2 * ox g j) = _
          rw [n2, up2_1 (by omega)]
        · show sn_up (sn_up _ (axs A g (s_0 S) j).2.2.1 _) ((axs A g (s_0 S) j).2.2.1 + 1) _ (2 * ox g j + 1) = _
          rw [n2, sn_up_at]
        · show sn_up (sn_up _ (axs A g (s_0 S) j).2.2.1 _) ((axs A g (s_0 S) j).2.2.1 + 1) _ (2 * ox g j) = _
          rw [n2, up2_1 (by omega)]
        · show sn_up (sn_up _ (axs A g (s_0 S) j).2.2.1 _) ((axs A g (s_0 S) j).2.2.1 + 1) _ (2 * ox g j + 1) = _
          rw [n2, sn_up_at]
      · have lt := ox_lt (show j < k by omega) hg
        obtain ⟨i0, i1, i2, i3, i4, i5, i6, i7, i8⟩ := ih j (by omega) hg
        refine ⟨?_, ?_, ?_, ?_, ?_, ?_, ?_, ?_, ?_⟩
        · show sn_up _ (axs A g (s_0 S) k).2.1 _ (ox g j) = _
          rw [sn_up_ne _ (by omega)]; exact i0
        · show sn_up _ (axs A g (s_0 S) k).2.1 _ (ox g j) = _
          rw [sn_up_ne _ (by omega)]; exact i1
        · show sn_up _ (axs A g (s_0 S) k).2.1 _ (ox g j) = _
          rw [sn_up_ne _ (by omega)]; exact i2
        · show sn_up (sn_up _ (axs A g (s_0 S) k).2.2.1 _) ((axs A g (s_0 S) k).2.2.1 + 1) _ _ = _
          rw [up2_o (by omega) (by omega)]; exact i3
        · show sn_up (sn_up _ (axs A g (s_0 S) k).2.2.1 _) ((axs A g (s_0 S) k).2.2.1 + 1) _ _ = _
          rw [up2_o (by omega) (by omega)]; exact i4
        · show sn_up (sn_up _ (axs A g (s_0 S) k).2.2.1 _) ((axs A g (s_0 S) k).2.2.1 + 1) _ _ = _
          rw [up2_o (by omega) (by omega)]; exact i5
        · show sn_up (sn_up _ (axs A g (s_0 S) k).2.2.1 _) ((axs A g (s_0 S) k).2.2.1 + 1) _ _ = _
          rw [up2_o (by omega) (by omega)]; exact i6
        · show sn_up (sn_up _ (axs A g (s_0 S) k).2.2.1 _) ((axs A g (s_0 S) k).2.2.1 + 1) _ _ = _
          rw [up2_o (by omega) (by omega)]; exact i7
        · show sn_up (sn_up _ (axs A g (s_0 S) k).2.2.1 _) ((axs A g (s_0 S) k).2.2.1 + 1) _ _ = _
          rw [up2_o (by omega) (by omega)]; exact i8
    · rw [if_neg c]
      have : j ≠ k := fun e => c (e ▸ hg)
      exact ih j (by omega) hg
theorem s_ax_c (S : sT) (f d c : Int) : cn_ct ((s_ax S f d).1 0) c (S.2.1 + 1) = cn_ct (S.1 0) c S.2.1 + (if c < 0 ∨ c = 0 then 1 else 0) := by
  have e : cn_ct ((s_ax S f d).1 0) c S.2.1 = cn_ct (S.1 0) c S.2.1 := cn_ct_ext c _ (fun l hl => show sn_up (S.1 0) S.2.1 0 l = S.1 0 l from sn_up_ne _ (by omega))
  have z : (s_ax S f d).1 0 S.2.1 = 0 := sn_up_at _ _ _
  rw [cn_ct_s, e, z]
  by_cases w : c < 0 ∨ c = 0
  · rw [if_pos w, if_pos ⟨by decide, by omega⟩]
  · rw [if_neg w, if_neg (fun y => w (by omega))]
theorem s_jn_c (S : sT) {k : Int} (hk : 0 ≤ k) (l r f c : Int) : cn_ct ((s_jn S k l r f).1 0) c (S.2.1 + 1) = cn_ct (S.1 0) c S.2.1 + (if c < 0 ∨ c = k then 1 else 0) := by
  have e : cn_ct ((s_jn S k l r f).1 0) c S.2.1 = cn_ct (S.1 0) c S.2.1 := cn_ct_ext c _ (fun t ht => show sn_up (S.1 0) S.2.1 k t = S.1 0 t from sn_up_ne _ (by omega))
  have z : (s_jn S k l r f).1 0 S.2.1 = k := sn_up_at _ _ _
  rw [cn_ct_s, e, z]
  by_cases w : c < 0 ∨ c = k
  · rw [if_pos w, if_pos ⟨hk, by omega⟩]
  · rw [if_neg w, if_neg (fun y => w (by omega))]
/-- the atoms linked are dual -/
def matT (T : fT) (A : List Nat) (g : Nat → Int) (n : Nat) : Prop := mat g n ∧ (∀ j, j < n → A.getD j 0 < T.2) ∧ ∀ j, j < n → T.1 3 (A.getD j 0) = (A.getD (g j).toNat 0 : Int)
theorem axs_ok {T : fT} {A : List Nat} {g : Nat → Int} {S : sT} {n : Nat} (hn : n ≤ 8) (h : matT T A g n) : ∀ k, k ≤ n → s_ok T (axs A g (s_0 S) k) ∧ cn_ct ((axs A g (s_0 S) k).1 0) 2 (ox g k) = 0 ∧ cn_ct ((axs A g (s_0 S) k).1 0) 1 (ox g k) = 0 ∧ cn_ct ((axs A g (s_0 S) k).1 0) 0 (ox g k) = ox g k := by
  intro k
  induction k with
  | zero => intro _; exact ⟨s_0_ok T S, rfl, rfl, rfl⟩
  | succ k ih =>
    intro hk
    obtain ⟨i1, i2, i3, i4⟩ := ih (by omega)
    obtain ⟨n1, n2, -⟩ := axs_n A g S k
    have ol := ox_le g k
    rw [axs_s, ox_s]
    by_cases c : (k : Int) < g k
    · rw [if_pos c, if_pos c]
      obtain ⟨q, h1, h2, h3, h4⟩ := h.1 k (by omega)
      have tq : (g k).toNat = q := by rw [h1]; rfl
      have b := cn_ct_b ((axs A g (s_0 S) k).1 0) (-1) (axs A g (s_0 S) k).2.1
      refine ⟨s_ax_ok i1 (by omega) (by omega) (by omega) ⟨by omega, by have := h.2.1 k (by omega); omega⟩ ⟨by omega, by have := h.2.1 q h2; rw [tq]; omega⟩ (h.2.2 k (by omega)), ?_, ?_, ?_⟩
      · rw [← n1, s_ax_c, n1, i2]; rfl
      · rw [← n1, s_ax_c, n1, i3]; rfl
      · rw [← n1, s_ax_c, n1, i4]; rfl
    · rw [if_neg c, if_neg c]
      exact ⟨i1, i2, i3, i4⟩
/-- laying the parts over a stack of edges -/
abbrev jT := sT × List Int × Nat
def js (T : fT) (g : Nat → Int) (x : jT) (f : Nat) : jT := if T.1 0 f = 0 then (x.1, ae g x.2.2 :: x.2.1, x.2.2 + 1) else (s_jn x.1 (T.1 0 f) (x.2.1.getD 1 0) (x.2.1.getD 0 0) (f : Int), (x.1.2.2.1 : Int) :: x.2.1.drop 2, x.2.2)
def jP (T : fT) (n : Nat) (x : jT) (f : Nat) : Prop := f < T.2 ∧ (T.1 0 f = 0 → x.2.2 < n ∧ x.2.1.length < n) ∧ (¬ T.1 0 f = 0 → (T.1 0 f = 1 ∨ T.1 0 f = 2) ∧ 2 ≤ x.2.1.length ∧ x.2.1.length ≤ n ∧ (0 ≤ x.2.1.getD 1 0 ∧ x.2.1.getD 1 0 < 100) ∧ (0 ≤ x.2.1.getD 0 0 ∧ x.2.1.getD 0 0 < 100) ∧ x.1.2.1 < 60 ∧ x.1.2.2.1 + 1 ≤ 100)
def rok (T : fT) (n : Nat) (g : Nat → Int) : jT → List Nat → Prop
  | _, [] => True
  | x, f :: L => jP T n x f ∧ rok T n g (js T g x f) L
theorem rok_a {T : fT} {n : Nat} {g : Nat → Int} : ∀ {L M : List Nat} {x : jT}, rok T n g x (L ++ M) ↔ (rok T n g x L ∧ rok T n g (L.foldl (js T g) x) M) := by
  intro L
  induction L with
  | nil => intro M x; exact ⟨fun h => ⟨trivial, h⟩, fun h => h.2⟩
  | cons f L ih =>
    intro M x
    show (jP T n x f ∧ rok T n g (js T g x f) (L ++ M)) ↔ ((jP T n x f ∧ rok T n g (js T g x f) L) ∧ _)
    rw [ih]
    exact ⟨fun h => ⟨⟨h.1, h.2.1⟩, h.2.2⟩, fun h => ⟨h.1.1, h.1.2, h.2⟩⟩
/-- edges that wait: those on the stack, those of atoms to come -/
def jF (g : Nat → Int) (n : Nat) (x : jT) : List Int := x.2.1 ++ (List.range' x.2.2 (n - x.2.2)).map (ae g)
def jI2 (T : fT) (A : List Nat) (g : Nat → Int) (n : Nat) (x : jT) (ty : List Nat) : Prop := s_ok T x.1 ∧ x.1.2.2.2 = 0 ∧ (x.2.2 ≤ n ∧ x.2.1.length ≤ x.2.2) ∧ (x.1.2.1 + x.2.1.length = ox g n + x.2.2 ∧ x.1.2.2.1 + x.2.1.length = 2 * ox g n + x.2.2) ∧ (cn_ct (x.1.1 0) 2 x.1.2.1 + x.2.1.length ≤ x.2.2) ∧ (jF g n x).Nodup ∧ (∀ e ∈ jF g n x, s_fr x.1 e) ∧ x.2.1.map (fun e => x.1.1 4 e.toNat) = ty.map (fun (t : Nat) => (t : Int)) ∧ ∀ j, x.2.2 ≤ j → j < n → x.1.1 4 (ae g j).toNat = (A.getD j 0 : Int)
theorem jF_a {g : Nat → Int} {n : Nat} {S : sT} {st : List Int} {a : Nat} (h : a < n) : (jF g n (S, st, a)).Perm (jF g n (S, ae g a :: st, a + 1)) := by
  unfold jF
  show (st ++ (List.range' a (n - a)).map (ae g)).Perm ((ae g a :: st) ++ (List.range' (a + 1) (n - (a + 1))).map (ae g))
  rw [show n - a = (n - (a + 1)) + 1 by omega, List.range'_succ, List.map_cons]
  exact List.perm_middle
theorem jI_atom {T : fT} {A : List Nat} {g : Nat → Int} {n : Nat} {S : sT} {st : List Int} {a : Nat} {ty : List Nat} (h : jI2 T A g n (S, st, a) ty) (ha : a < n) {f : Nat} (hf : A.getD a 0 = f) : jI2 T A g n (S, ae g a :: st, a + 1) (f :: ty) := by
  obtain ⟨h1, h2, ⟨h3, h4⟩, ⟨h5, h6⟩, h7, h8, h9, h10, h11⟩ := h
  have p := jF_a (g := g) (n := n) (S := S) (st := st) ha
  refine ⟨h1, h2, ⟨by show a + 1 ≤ n; omega, by show st.length + 1 ≤ a + 1; have : st.length ≤ a := h4; omega⟩, ⟨?_, ?_⟩, ?_, p.nodup_iff.mp h8, fun e he => h9 e (p.mem_iff.mpr he), ?_, fun j h1 h2 => h11 j (by show a ≤ j; have : a + 1 ≤ j := h1; omega) h2⟩
  · show S.2.1 + (st.length + 1) = ox g n + (a + 1)
    have : S.2.1 + st.length = ox g n + a := h5
    omega
  · show S.2.2.1 + (st.length + 1) = 2 * ox g n + (a + 1)
    have : S.2.2.1 + st.length = 2 * ox g n + a := h6
    omega
  · show cn_ct (S.1 0) 2 S.2.1 + ((st.length + 1 : Nat) : Int) ≤ ((a + 1 : Nat) : Int)
    have : cn_ct (S.1 0) 2 S.2.1 + (st.length : Int) ≤ (a : Int) := h7
    omega
  · show S.1 4 (ae g a).toNat :: st.map (fun e => S.1 4 e.toNat) = (f : Int) :: ty.map (fun (t : Nat) => (t : Int))
    rw [h11 a (Nat.le_refl a) ha, hf]
    have h10 : st.map (fun e => S.1 4 e.toNat) = ty.map (fun (t : Nat) => (t : Int)) := h10
    rw [h10]
theorem jI_join {T : fT} {A : List Nat} {g : Nat → Int} {n : Nat} (hn : n ≤ 8) {S : sT} {el er : Int} {st : List Int} {a : Nat} {tl tr : Nat} {ty : List Nat} (h : jI2 T A g n (S, er :: el :: st, a) (tr :: tl :: ty)) {f : Nat} (hf : f < T.2) (hk : T.1 0 f = 1 ∨ T.1 0 f = 2) (hl : T.1 1 f = (tl : Int)) (hr : T.1 2 f = (tr : Int)) : jI2 T A g n (s_jn S (T.1 0 f) el er (f : Int), (S.2.2.1 : Int) :: st, a) (f :: ty) ∧ ((0 ≤ el ∧ el < 100) ∧ (0 ≤ er ∧ er < 100) ∧ S.2.1 < 60 ∧ S.2.2.1 + 1 ≤ 100) := by
  obtain ⟨h1, h2, ⟨h3, h4⟩, ⟨h5, h6⟩, h7, h8, h9, h10, h11⟩ := h
  have h1 : s_ok T S := h1
  have h3 : a ≤ n := h3
  have h4 : st.length + 2 ≤ a := h4
  have h5 : S.2.1 + (st.length + 2) = ox g n + a := h5
  have h6 : S.2.2.1 + (st.length + 2) = 2 * ox g n + a := h6
  have h7 : cn_ct (S.1 0) 2 S.2.1 + ((st.length + 2 : Nat) : Int) ≤ (a : Int) := h7
  have ol := ox_le g n
  have b := cn_ct_b (S.1 0) (-1) S.2.1
  have h8 : (er :: el :: (st ++ (List.range' a (n - a)).map (ae g))).Nodup := h8
  have fr : s_fr S er := h9 er List.mem_cons_self
  have fl : s_fr S el := h9 el (List.mem_cons_of_mem _ List.mem_cons_self)
  obtain ⟨n1, n2⟩ := List.nodup_cons.mp h8
  obtain ⟨n3, n4⟩ := List.nodup_cons.mp n2
  have nlr : el ≠ er := fun z => n1 (by rw [z]; exact List.mem_cons_self)
  have t1 : S.1 4 er.toNat = (tr : Int) := (List.cons.inj h10).1
  have t2 : S.1 4 el.toNat = (tl : Int) := (List.cons.inj (List.cons.inj h10).2).1
  have t3 : st.map (fun e => S.1 4 e.toNat) = ty.map (fun (t : Nat) => (t : Int)) := (List.cons.inj (List.cons.inj h10).2).2
  have ok := s_jn_ok (k := T.1 0 f) (l := el) (r := er) (f := (f : Int)) h1 (by omega) (by omega) (by omega) hk (fun _ => by omega) fl fr nlr ⟨by omega, by omega⟩ rfl (by rw [t2]; exact hl) (by rw [t1]; exact hr)
  have bl := fl.1
  have br := fr.1
  have oldE : ∀ e : Int, s_fr S e → e ≠ el → e ≠ er → s_fr (s_jn S (T.1 0 f) el er (f : Int)) e ∧ (s_jn S (T.1 0 f) el er (f : Int)).1 4 e.toNat = S.1 4 e.toNat := by
    intro e he z1 z2
    have e1 := he.1.1
    have e2 := he.1.2.1
    have l1 := bl.1
    have r1 := br.1
    have x4 : (s_jn S (T.1 0 f) el er (f : Int)).1 4 e.toNat = S.1 4 e.toNat := sn_up_ne _ (by omega)
    have x6 : (s_jn S (T.1 0 f) el er (f : Int)).1 6 e.toNat = S.1 6 e.toNat := by
      show sn_up (sn_up (sn_up (S.1 6) el.toNat _) er.toNat _) S.2.2.1 (-1) e.toNat = _
      rw [sn_up_ne _ (by omega), sn_up_ne _ (by omega), sn_up_ne _ (by omega)]
    have x7 : (s_jn S (T.1 0 f) el er (f : Int)).1 7 e.toNat = S.1 7 e.toNat := sn_up_ne _ (by omega)
    refine ⟨⟨⟨e1, ?_, by rw [x4]; exact he.1.2.2⟩, by rw [x6]; exact he.2.1, by rw [x7]; exact he.2.2⟩, x4⟩
    show e < ((S.2.2.1 + 1 : Nat) : Int)
    omega
  have inO : ∀ e ∈ st ++ (List.range' a (n - a)).map (ae g), s_fr S e ∧ e ≠ el ∧ e ≠ er := fun e he => ⟨h9 e (List.mem_cons_of_mem _ (List.mem_cons_of_mem _ he)), fun z => n3 (z ▸ he), fun z => n1 (List.mem_cons_of_mem _ (z ▸ he))⟩
  refine ⟨⟨ok, h2, ⟨h3, by show st.length + 1 ≤ a; omega⟩, ⟨by show S.2.1 + 1 + (st.length + 1) = ox g n + a; omega, by show S.2.2.1 + 1 + (st.length + 1) = 2 * ox g n + a; omega⟩, ?_, ?_, ?_, ?_, fun j j1 j2 => ?_⟩, ⟨bl.1, by have := bl.2.1; omega⟩, ⟨br.1, by have := br.2.1; omega⟩, by omega, by omega⟩
  · show cn_ct ((s_jn S (T.1 0 f) el er (f : Int)).1 0) 2 (S.2.1 + 1) + ((st.length + 1 : Nat) : Int) ≤ (a : Int)
    rw [s_jn_c S (by omega)]
    split <;> omega
  · show ((S.2.2.1 : Int) :: (st ++ (List.range' a (n - a)).map (ae g))).Nodup
    refine List.nodup_cons.mpr ⟨fun z => ?_, n4⟩
    have := (inO _ z).1.1.2.1
    omega
  · intro e he
    have he : e ∈ (S.2.2.1 : Int) :: (st ++ (List.range' a (n - a)).map (ae g)) := he
    rcases List.mem_cons.mp he with rfl | he
    · refine ⟨⟨by omega, by show (S.2.2.1 : Int) < ((S.2.2.1 + 1 : Nat) : Int); omega, ?_⟩, sn_up_at _ _ _, sn_up_at _ _ _⟩
      show 0 ≤ sn_up (S.1 4) S.2.2.1 (f : Int) S.2.2.1
      rw [sn_up_at]
      omega
    · obtain ⟨i1, i2, i3⟩ := inO e he
      exact (oldE e i1 i2 i3).1
  · show sn_up (S.1 4) S.2.2.1 (f : Int) S.2.2.1 :: st.map (fun e => (s_jn S (T.1 0 f) el er (f : Int)).1 4 e.toNat) = (f : Int) :: ty.map (fun (t : Nat) => (t : Int))
    rw [sn_up_at, ← t3]
    congr 1
    refine List.map_congr_left (fun e he => ?_)
    obtain ⟨i1, i2, i3⟩ := inO e (List.mem_append_left _ he)
    exact (oldE e i1 i2 i3).2
  · have j1 : a ≤ j := j1
    obtain ⟨i1, i2, i3⟩ := inO (ae g j) (List.mem_append_right _ (List.mem_map.mpr ⟨j, List.mem_range'.mpr ⟨j - a, by omega, by omega⟩, rfl⟩))
    show (s_jn S (T.1 0 f) el er (f : Int)).1 4 (ae g j).toNat = _
    rw [(oldE _ i1 i2 i3).2]
    exact h11 j j1 j2
/-- the parts of a formula, laid -/
theorem jI_run {T : fT} (hT : fT_ok T) {A : List Nat} {g : Nat → Int} {n : Nat} (hn : n ≤ 8) : ∀ f, f < T.2 → ∀ (S : sT) (st : List Int) (a : Nat) (ty : List Nat), jI2 T A g n (S, st, a) ty → a + (lf T f).length ≤ n → (∀ i, i < (lf T f).length → A.getD (a + i) 0 = (lf T f).getD i 0) → ∃ (S' : sT) (e : Int), (pp T f).foldl (js T g) (S, st, a) = (S', e :: st, a + (lf T f).length) ∧ jI2 T A g n (S', e :: st, a + (lf T f).length) (f :: ty) ∧ rok T n g (S, st, a) (pp T f) := by
  refine f_ind hT (P := fun f => ∀ (S : sT) (st : List Int) (a : Nat) (ty : List Nat), jI2 T A g n (S, st, a) ty → a + (lf T f).length ≤ n → (∀ i, i < (lf T f).length → A.getD (a + i) 0 = (lf T f).getD i 0) → ∃ (S' : sT) (e : Int), (pp T f).foldl (js T g) (S, st, a) = (S', e :: st, a + (lf T f).length) ∧ jI2 T A g n (S', e :: st, a + (lf T f).length) (f :: ty) ∧ rok T n g (S, st, a) (pp T f)) (fun f hf k S st a ty h hl hA => ?_) (fun f hf k i1 i2 S st a ty h hl hA => ?_)
  · rw [pp_a k, lf_a k] at *
    have hl : a + 1 ≤ n := hl
    have sl := h.2.2.1.2
    have sl : st.length ≤ a := sl
    refine ⟨S, ae g a, ?_, jI_atom h (by omega) (hA 0 (Nat.lt_succ_self 0)), ⟨hf, fun _ => ⟨?_, ?_⟩, fun z => absurd k z⟩, trivial⟩
    · show js T g (S, st, a) f = _
      unfold js
      rw [if_pos k]
      rfl
    · show a < n
      omega
    · show st.length < n
      omega
  · obtain ⟨k12, l, r⟩ := tb_lr hT hf k
    rw [lf_j hT hf k, List.length_append] at hl
    have hA1 : ∀ i, i < (lf T (T.1 1 f).toNat).length → A.getD (a + i) 0 = (lf T (T.1 1 f).toNat).getD i 0 := fun i hi => by
      rw [hA i (by rw [lf_j hT hf k, List.length_append]; omega), lf_j hT hf k, List.getD_eq_getElem?_getD, List.getElem?_append_left hi, ← List.getD_eq_getElem?_getD]
    have hA2 : ∀ i, i < (lf T (T.1 2 f).toNat).length → A.getD (a + (lf T (T.1 1 f).toNat).length + i) 0 = (lf T (T.1 2 f).toNat).getD i 0 := fun i hi => by
      have := hA ((lf T (T.1 1 f).toNat).length + i) (by rw [lf_j hT hf k, List.length_append]; omega)
      rw [lf_j hT hf k, List.getD_eq_getElem?_getD (l := _ ++ _), List.getElem?_append_right (by omega), show (lf T (T.1 1 f).toNat).length + i - (lf T (T.1 1 f).toNat).length = i by omega, ← List.getD_eq_getElem?_getD] at this
      rw [← this, Nat.add_assoc]
    obtain ⟨S1, e1, f1, j1, r1⟩ := i1 S st a ty h (by omega) hA1
    obtain ⟨S2, e2, f2, j2, r2⟩ := i2 S1 (e1 :: st) (a + (lf T (T.1 1 f).toNat).length) _ j1 (by omega) hA2
    obtain ⟨j3, b1, b2, b3, b4⟩ := jI_join hn j2 hf k12 l.2.2 r.2.2
    have hsl := j2.2.2.1.2
    have hsl : st.length + 2 ≤ a + (lf T (T.1 1 f).toNat).length + (lf T (T.1 2 f).toNat).length := hsl
    rw [lf_j hT hf k, List.length_append, ← Nat.add_assoc]
    refine ⟨_, _, ?_, j3, ?_⟩
    · rw [pp_j hT hf k, List.foldl_append, List.foldl_append, f1, f2]
      show js T g (S2, e2 :: e1 :: st, _) f = _
      unfold js
      rw [if_neg k]
      rfl
    · rw [pp_j hT hf k, rok_a, rok_a, List.foldl_append, f1, f2]
      exact ⟨⟨r1, r2⟩, ⟨hf, fun z => absurd z k, fun _ => ⟨k12, by show 2 ≤ st.length + 2; omega, by show st.length + 2 ≤ n; omega, b1, b2, b3, b4⟩⟩, trivial⟩
/-- from the axioms on -/
theorem ax_jI {T : fT} {A : List Nat} {g : Nat → Int} {S : sT} {n : Nat} (hn : n ≤ 8) (h : matT T A g n) : jI2 T A g n (axs A g (s_0 S) n, [], 0) [] := by
  obtain ⟨h1, h2, h3, h4⟩ := axs_ok (S := S) hn h n (Nat.le_refl n)
  obtain ⟨n1, n2, n3⟩ := axs_n A g S n
  have edg : ∀ j, j < n → s_fr (axs A g (s_0 S) n) (ae g j) ∧ (axs A g (s_0 S) n).1 4 (ae g j).toNat = (A.getD j 0 : Int) := by
    intro j hj
    have b := ae_b h.1 hj
    obtain ⟨q, q1, q2, q3, q4⟩ := h.1 j hj
    by_cases c : (j : Int) < g j
    · obtain ⟨-, -, -, r4, -, r6, -, r7, -⟩ := axs_r (A := A) (S := S) n j hj c
      have e : ae g j = 2 * (ox g j : Int) := if_pos c
      have et : (ae g j).toNat = 2 * ox g j := by omega
      rw [et]
      refine ⟨⟨⟨b.1, by rw [n2]; omega, ?_⟩, ?_, ?_⟩, r4⟩
      · rw [et, r4]; omega
      · rw [et]; exact r6
      · rw [et]; exact r7
    · have cq : (q : Int) < g q := by omega
      obtain ⟨-, -, -, -, r4, -, r6, -, r7⟩ := axs_r (A := A) (S := S) n q q2 cq
      have e : ae g j = 2 * (ox g q : Int) + 1 := by unfold ae; rw [if_neg c, q1]; rfl
      have et : (ae g j).toNat = 2 * ox g q + 1 := by omega
      have eg : (g q).toNat = j := by rw [q4]; rfl
      rw [eg] at r4
      rw [et]
      refine ⟨⟨⟨b.1, by rw [n2]; omega, ?_⟩, ?_, ?_⟩, r4⟩
      · rw [et, r4]; omega
      · rw [et]; exact r6
      · rw [et]; exact r7
  have inF : ∀ e ∈ jF g n (axs A g (s_0 S) n, [], 0), ∃ j, j < n ∧ ae g j = e := by
    intro e he
    have he : e ∈ (List.range' 0 (n - 0)).map (ae g) := he
    obtain ⟨j, j1, j2⟩ := List.mem_map.mp he
    obtain ⟨i, i1, i2⟩ := List.mem_range'.mp j1
    exact ⟨j, by omega, j2⟩
  refine ⟨h1, n3, ⟨Nat.zero_le _, Nat.le_refl _⟩, ⟨n1, n2⟩, ?_, ?_, fun e he => ?_, rfl, fun j _ hj => (edg j hj).2⟩
  · show cn_ct ((axs A g (s_0 S) n).1 0) 2 (axs A g (s_0 S) n).2.1 + ((0 : Nat) : Int) ≤ ((0 : Nat) : Int)
    rw [n1, h2]
    decide
  · show ((List.range' 0 (n - 0)).map (ae g)).Nodup
    rw [List.Nodup, List.pairwise_map]
    refine List.Pairwise.imp_of_mem (R := fun a b => a ≠ b) (fun {x y} hx hy hne e => ?_) List.nodup_range'
    obtain ⟨i, i1, i2⟩ := List.mem_range'.mp hx
    obtain ⟨j, j1, j2⟩ := List.mem_range'.mp hy
    exact hne (ae_u h.1 (by omega) (by omega) e)
  · obtain ⟨j, hj, rfl⟩ := inF e he
    exact (edg j hj).1
/-- the whole structure -/
def asm (T : fT) (f : Nat) (g : Nat → Int) (S : sT) : sT := s_nm ((pp T f).foldl (js T g) (axs (lf T f) g (s_0 S) (lf T f).length, [], 0)).1 (((pp T f).foldl (js T g) (axs (lf T f) g (s_0 S) (lf T f).length, [], 0)).2.1.getD 0 0)
theorem asm_ok {T : fT} (hT : fT_ok T) {f : Nat} (hf : f < T.2) {g : Nat → Int} (S : sT) (hn : (lf T f).length ≤ 8) (h : matT T (lf T f) g (lf T f).length) : ∃ (S' : sT) (e : Int), (pp T f).foldl (js T g) (axs (lf T f) g (s_0 S) (lf T f).length, [], 0) = (S', [e], (lf T f).length) ∧ asm T f g S = s_nm S' e ∧ rok T (lf T f).length g (axs (lf T f) g (s_0 S) (lf T f).length, [], 0) (pp T f) ∧ s_ok T (asm T f g S) ∧ (S'.2.2.2 = 0 ∧ 0 ≤ e ∧ e < 100) := by
  obtain ⟨S', e, h1, h2, h3⟩ := jI_run hT hn f hf _ _ _ _ (ax_jI (S := S) hn h) (by omega) (fun i _ => by rw [Nat.zero_add])
  rw [Nat.zero_add] at h1 h2
  have ea : asm T f g S = s_nm S' e := by unfold asm; rw [h1]; rfl
  have fr : s_fr S' e := h2.2.2.2.2.2.2.1 e (List.mem_append_left _ List.mem_cons_self)
  have b := h2.1.1.2.1
  have b : S'.2.2.1 ≤ 100 := b
  refine ⟨S', e, h1, ea, h3, ?_, h2.2.1, fr.1.1, by have := fr.1.2.1; omega⟩
  rw [ea]
  exact (s_nm_ok h2.1 fr).1
theorem js_eq {T : fT} {g : Nat → Int} {S S' : sT} (h : s_eq S S') : ∀ (L : List Nat) (st : List Int) (a : Nat), s_eq (L.foldl (js T g) (S, st, a)).1 (L.foldl (js T g) (S', st, a)).1 ∧ (L.foldl (js T g) (S, st, a)).2 = (L.foldl (js T g) (S', st, a)).2 := by
  intro L
  induction L generalizing S S' with
  | nil => intro st a; exact ⟨h, rfl⟩
  | cons f L ih =>
    intro st a
    rw [List.foldl_cons, List.foldl_cons]
    by_cases k : T.1 0 f = 0
    · have e1 : js T g (S, st, a) f = (S, ae g a :: st, a + 1) := if_pos k
      have e2 : js T g (S', st, a) f = (S', ae g a :: st, a + 1) := if_pos k
      rw [e1, e2]
      exact ih h _ _
    · have e1 : js T g (S, st, a) f = (s_jn S (T.1 0 f) (st.getD 1 0) (st.getD 0 0) (f : Int), (S.2.2.1 : Int) :: st.drop 2, a) := if_neg k
      have e2 : js T g (S', st, a) f = (s_jn S' (T.1 0 f) (st.getD 1 0) (st.getD 0 0) (f : Int), (S'.2.2.1 : Int) :: st.drop 2, a) := if_neg k
      rw [e1, e2, show S'.2.2.1 = S.2.2.1 by rw [h.1]]
      exact ih (s_jn_eq _ _ _ _ h) _ _
theorem asm_eq (T : fT) (f : Nat) (g : Nat → Int) (S S' : sT) : s_eq (asm T f g S) (asm T f g S') := by
  obtain ⟨h1, h2⟩ := js_eq (T := T) (g := g) (axs_eq (lf T f) g (S := S) (S' := S') (lf T f).length) (pp T f) [] 0
  unfold asm
  rw [← h2]
  exact s_nm_eq _ h1
/-- how many links of which kind -/
theorem js_ct {T : fT} {n : Nat} {g : Nat → Int} : ∀ (L : List Nat) (x : jT), rok T n g x L → cn_ct ((L.foldl (js T g) x).1.1 0) 0 (L.foldl (js T g) x).1.2.1 = cn_ct (x.1.1 0) 0 x.1.2.1 ∧ cn_ct ((L.foldl (js T g) x).1.1 0) 3 (L.foldl (js T g) x).1.2.1 = cn_ct (x.1.1 0) 3 x.1.2.1 ∧ cn_ct ((L.foldl (js T g) x).1.1 0) 1 (L.foldl (js T g) x).1.2.1 = cn_ct (x.1.1 0) 1 x.1.2.1 + (tn T L : Int) := by
  intro L
  induction L with
  | nil => intro x _; exact ⟨rfl, rfl, (Int.add_zero _).symm⟩
  | cons f L ih =>
    intro x h
    obtain ⟨h1, h2⟩ := h
    obtain ⟨i1, i2, i3⟩ := ih _ h2
    rw [List.foldl_cons, i1, i2, i3]
    have et : tn T (f :: L) = (if T.1 0 f = 1 then 1 else 0) + tn T L := by
      have := tn_a T [f] L
      rw [show f :: L = [f] ++ L from rfl, this]
      unfold tn
      by_cases c : T.1 0 f = 1
      · rw [if_pos c, List.filter_cons_of_pos (p := fun g => decide (T.1 0 g = 1)) (decide_eq_true c)]
        rfl
      · rw [if_neg c, List.filter_cons_of_neg (p := fun g => decide (T.1 0 g = 1)) (by rw [decide_eq_true_eq]; exact c)]
        rfl
    rw [et]
    by_cases k : T.1 0 f = 0
    · have e1 : js T g x f = (x.1, ae g x.2.2 :: x.2.1, x.2.2 + 1) := if_pos k
      rw [e1, if_neg (by omega)]
      refine ⟨rfl, rfl, ?_⟩
      show cn_ct (x.1.1 0) 1 x.1.2.1 + (tn T L : Int) = cn_ct (x.1.1 0) 1 x.1.2.1 + ((0 + tn T L : Nat) : Int)
      omega
    · have k12 := (h1.2.2 k).1
      have e1 : js T g x f = (s_jn x.1 (T.1 0 f) (x.2.1.getD 1 0) (x.2.1.getD 0 0) (f : Int), (x.1.2.2.1 : Int) :: x.2.1.drop 2, x.2.2) := if_neg k
      rw [e1]
      have q := fun c => s_jn_c x.1 (k := T.1 0 f) (by omega) (x.2.1.getD 1 0) (x.2.1.getD 0 0) (f : Int) c
      refine ⟨(q 0).trans ?_, (q 3).trans ?_, ?_⟩
      · rw [if_neg (by omega)]; omega
      · rw [if_neg (by omega)]; omega
      · have q1 := q 1
        have q1 : cn_ct ((s_jn x.1 (T.1 0 f) (x.2.1.getD 1 0) (x.2.1.getD 0 0) (f : Int)).1 0) 1 (s_jn x.1 (T.1 0 f) (x.2.1.getD 1 0) (x.2.1.getD 0 0) (f : Int)).2.1 = cn_ct (x.1.1 0) 1 x.1.2.1 + (if (1 : Int) < 0 ∨ (1 : Int) = T.1 0 f then 1 else 0) := q1
        rw [q1]
        by_cases c : T.1 0 f = 1
        · rw [if_pos (Or.inr c.symm), if_pos c]; omega
        · rw [if_neg (by omega), if_neg c]; omega
theorem cn_all {f : Nat → Int} : ∀ n, (∀ l, l < n → -1 ≤ f l ∧ f l ≤ 3) → cn_ct f (-1) n = cn_ct f 0 n + cn_ct f 1 n + cn_ct f 2 n + cn_ct f 3 n := by
  intro n
  induction n with
  | zero => intro _; rfl
  | succ n ih =>
    intro h
    have := ih (fun l hl => h l (by omega))
    have b := h n (by omega)
    simp only [cn_ct_s]
    by_cases a0 : f n = 0
    · rw [if_pos (by omega), if_pos (by omega), if_neg (by omega), if_neg (by omega), if_neg (by omega)]; omega
    · by_cases a1 : f n = 1
      · rw [if_pos (by omega), if_neg (by omega), if_pos (by omega), if_neg (by omega), if_neg (by omega)]; omega
      · by_cases a2 : f n = 2
        · rw [if_pos (by omega), if_neg (by omega), if_neg (by omega), if_pos (by omega), if_neg (by omega)]; omega
        · by_cases a3 : f n = 3
          · rw [if_pos (by omega), if_neg (by omega), if_neg (by omega), if_neg (by omega), if_pos (by omega)]; omega
          · rw [if_neg (by omega), if_neg (by omega), if_neg (by omega), if_neg (by omega), if_neg (by omega)]; omega
