/-! Matchings of atoms, in the order in which both try them. -/
abbrev pth := List (Nat × Nat)
def ptn : pth → Nat → Int
  | [] => fun _ => -1
  | x :: st => sn_up (sn_up (ptn st) x.1 (x.2 : Int)) x.2 (x.1 : Int)
/-- the first that is alone, n if none is -/
def fa (g : Nat → Int) : Nat → Nat
  | 0 => 0
  | n + 1 => if fa g n < n then fa g n else if g n = -1 then n else n + 1
theorem fa_s (g : Nat → Int) (n : Nat) : fa g (n + 1) = if fa g n < n then fa g n else if g n = -1 then n else n + 1 := rfl
theorem fa_ok (g : Nat → Int) : ∀ n, fa g n ≤ n ∧ (fa g n < n → g (fa g n) = -1) ∧ ∀ j, j < fa g n → ¬ g j = -1 := by
  intro n
  induction n with
  | zero => exact ⟨Nat.le_refl _, fun z => absurd z (Nat.not_lt_zero _), fun j hj => absurd hj (Nat.not_lt_zero j)⟩
  | succ n ih =>
    obtain ⟨h1, h2, h3⟩ := ih
    rw [fa_s]
    by_cases c : fa g n < n
    · rw [if_pos c]
      exact ⟨by omega, fun _ => h2 c, h3⟩
    · have e : fa g n = n := by omega
      rw [if_neg c]
      rw [e] at h3
      by_cases d : g n = -1
      · rw [if_pos d]
        exact ⟨by omega, fun _ => d, h3⟩
      · rw [if_neg d]
        refine ⟨Nat.le_refl _, fun z => by omega, fun j hj => ?_⟩
        by_cases w : j = n
        · subst w
          exact d
        · exact h3 j (by omega)
theorem fa_u {g : Nat → Int} {n k : Nat} (hk : k < n) (h1 : g k = -1) (h2 : ∀ j, j < k → ¬ g j = -1) : fa g n = k := by
  obtain ⟨f1, f2, f3⟩ := fa_ok g n
  rcases Nat.lt_trichotomy (fa g n) k with z | z | z
  · exact absurd (f2 (by omega)) (h2 _ z)
  · exact z
  · exact absurd h1 (f3 k z)
/-- how many are alone -/
def ac (g : Nat → Int) : Nat → Nat
  | 0 => 0
  | n + 1 => ac g n + (if g n = -1 then 1 else 0)
theorem ac_up {g : Nat → Int} {k : Nat} {v : Int} (h1 : g k = -1) (hv : ¬ v = -1) : ∀ n, ac (sn_up g k v) n + (if k < n then 1 else 0) = ac g n := by
  intro n
  induction n with
  | zero => rfl
  | succ n ih =>
    show ac (sn_up g k v) n + (if sn_up g k v n = -1 then 1 else 0) + (if k < n + 1 then 1 else 0) = ac g n + (if g n = -1 then 1 else 0)
    by_cases w : n = k
    · subst w
      rw [sn_up_at, if_neg hv, if_pos (show n < n + 1 by omega), if_pos h1]
      rw [if_neg (show ¬ n < n by omega)] at ih
      omega
    · rw [sn_up_ne _ w]
      by_cases c : k < n
      · rw [if_pos (show k < n + 1 by omega)]
        rw [if_pos c] at ih
        omega
      · rw [if_neg (show ¬ k < n + 1 by omega)]
        rw [if_neg c] at ih
        omega
theorem ac_0 {g : Nat → Int} {n : Nat} (h : ac g n = 0) : ∀ j, j < n → ¬ g j = -1 := by
  induction n with
  | zero => intro j hj; exact absurd hj (Nat.not_lt_zero j)
  | succ n ih =>
    intro j hj
    have h : ac g n + (if g n = -1 then 1 else 0) = 0 := h
    by_cases d : g n = -1
    · rw [if_pos d] at h
      omega
    · by_cases w : j = n
      · subst w
        exact d
      · exact ih (by omega) j (by omega)
theorem ac_p {g : Nat → Int} {n : Nat} (h : ∀ j, j < n → ¬ g j = -1) : ac g n = 0 := by
  induction n with
  | zero => rfl
  | succ n ih =>
    show ac g n + (if g n = -1 then 1 else 0) = 0
    rw [ih (fun j hj => h j (by omega)), if_neg (h n (by omega))]
theorem ac_all (n : Nat) : ac (fun _ => -1) n = n := by
  induction n with
  | zero => rfl
  | succ n ih =>
    show ac (fun _ => -1) n + (if (-1 : Int) = -1 then 1 else 0) = n + 1
    rw [ih, if_pos rfl]
section MT
variable (n : Nat) (ft : Nat → Nat → Bool)
/-- each pair takes the first that is alone -/
def wf : pth → Prop
  | [] => True
  | x :: st => wf st ∧ x.1 = fa (ptn st) n ∧ x.1 < x.2 ∧ x.2 < n ∧ ptn st x.2 = -1 ∧ ft x.1 x.2 = true
def sibs (F : pth → List pth) (k : Nat) (st : pth) : Nat → Nat → List pth
  | 0, _ => []
  | c + 1, q => (if ptn st q = -1 ∧ ft k q = true then F ((k, q) :: st) else []) ++ sibs F k st c (q + 1)
def pre : Nat → pth → List pth
  | 0, st => [st]
  | m + 1, st => st :: sibs ft (pre m) (fa (ptn st) n) st (n - (fa (ptn st) n + 1)) (fa (ptn st) n + 1)
def rest (h : Nat) : pth → List pth
  | [] => []
  | x :: st => sibs ft (pre n ft (h - (st.length + 1))) x.1 st (n - (x.2 + 1)) (x.2 + 1) ++ rest h st
def lvs (h : Nat) (L : List pth) : List pth := L.filter (fun st => decide (st.length = h))
def Wl (h : Nat) (st : pth) : List pth := pre n ft (h - st.length) st ++ rest n ft h st
end MT
theorem wf_ac {n : Nat} {ft : Nat → Nat → Bool} : ∀ {st : pth}, wf n ft st → ac (ptn st) n + 2 * st.length = n := by
  intro st
  induction st with
  | nil => intro _; exact ac_all n
  | cons x st ih =>
    intro h
    obtain ⟨h0, h1, h2, h3, h4, -⟩ := h
    have ih := ih h0
    obtain ⟨f1, f2, -⟩ := fa_ok (ptn st) n
    have k1 : ptn st x.1 = -1 := by rw [h1]; exact f2 (by omega)
    have a1 := ac_up (k := x.1) (v := (x.2 : Int)) k1 (by omega) n
    have k2 : sn_up (ptn st) x.1 (x.2 : Int) x.2 = -1 := by rw [sn_up_ne _ (by omega)]; exact h4
    have a2 := ac_up (k := x.2) (v := (x.1 : Int)) k2 (by omega) n
    rw [if_pos (show x.1 < n by omega)] at a1
    rw [if_pos (show x.2 < n by omega)] at a2
    show ac (sn_up (sn_up (ptn st) x.1 (x.2 : Int)) x.2 (x.1 : Int)) n + 2 * (st.length + 1) = n
    omega
theorem wf_fa {n : Nat} {ft : Nat → Nat → Bool} {st : pth} (h : wf n ft st) (hl : 2 * st.length < n) : fa (ptn st) n < n := by
  have := wf_ac h
  obtain ⟨f1, -, f3⟩ := fa_ok (ptn st) n
  refine Classical.byContradiction (fun z => ?_)
  have := ac_p (g := ptn st) (n := n) (fun j hj => f3 j (by omega))
  omega
theorem wf_le {n : Nat} {ft : Nat → Nat → Bool} {st : pth} (h : wf n ft st) : 2 * st.length ≤ n := by have := wf_ac h; omega
theorem wf_full {n : Nat} {ft : Nat → Nat → Bool} {st : pth} (h : wf n ft st) (hl : 2 * st.length = n) : ∀ j, j < n → ¬ ptn st j = -1 := ac_0 (by have := wf_ac h; omega)
/-- what the partners are -/
theorem wf_pt {n : Nat} {ft : Nat → Nat → Bool} : ∀ {st : pth}, wf n ft st → ∀ j, ptn st j = -1 ∨ ∃ q : Nat, ptn st j = (q : Int) ∧ j < n ∧ q < n ∧ q ≠ j ∧ ptn st q = (j : Int) ∧ (ft j q = true ∨ ft q j = true) := by
  intro st
  induction st with
  | nil => intro _ j; exact Or.inl rfl
  | cons x st ih =>
    intro h j
    obtain ⟨h0, h1, h2, h3, h4, h5⟩ := h
    have ih := ih h0
    obtain ⟨f1, f2, -⟩ := fa_ok (ptn st) n
    have k1 : ptn st x.1 = -1 := by rw [h1]; exact f2 (by omega)
    have e2 : ptn (x :: st) x.2 = (x.1 : Int) := sn_up_at _ _ _
    have e1 : ptn (x :: st) x.1 = (x.2 : Int) := by
      show sn_up (sn_up (ptn st) x.1 (x.2 : Int)) x.2 (x.1 : Int) x.1 = _
      rw [sn_up_ne _ (by omega), sn_up_at]
    have eo : ∀ t, t ≠ x.1 → t ≠ x.2 → ptn (x :: st) t = ptn st t := fun t z1 z2 => by
      show sn_up (sn_up (ptn st) x.1 (x.2 : Int)) x.2 (x.1 : Int) t = _
      rw [sn_up_ne _ z2, sn_up_ne _ z1]
    by_cases w2 : j = x.2
    · subst w2
      exact Or.inr ⟨x.1, e2, h3, by omega, by omega, e1, Or.inr h5⟩
    · by_cases w1 : j = x.1
      · subst w1
        exact Or.inr ⟨x.2, e1, by omega, h3, by omega, e2, Or.inl h5⟩
      · rw [eo j w1 w2]
        rcases ih j with z | ⟨q, z1, z2, z3, z4, z5, z6⟩
        · exact Or.inl z
        · refine Or.inr ⟨q, z1, z2, z3, z4, ?_, z6⟩
          rw [eo q (fun y => by rw [y, k1] at z5; omega) (fun y => by rw [y, h4] at z5; omega)]
          exact z5
/-- taking a pair back -/
theorem ptn_back {n : Nat} {ft : Nat → Nat → Bool} {x : Nat × Nat} {st : pth} (h : wf n ft (x :: st)) : sn_up (sn_up (ptn (x :: st)) x.1 (-1)) x.2 (-1) = ptn st := by
  obtain ⟨h0, h1, h2, h3, h4, h5⟩ := h
  obtain ⟨f1, f2, -⟩ := fa_ok (ptn st) n
  have k1 : ptn st x.1 = -1 := by rw [h1]; exact f2 (by omega)
  funext t
  by_cases w2 : t = x.2
  · subst w2
    rw [sn_up_at, h4]
  · rw [sn_up_ne _ w2]
    by_cases w1 : t = x.1
    · subst w1
      rw [sn_up_at, k1]
    · rw [sn_up_ne _ w1]
      show sn_up (sn_up (ptn st) x.1 (x.2 : Int)) x.2 (x.1 : Int) t = _
      rw [sn_up_ne _ w2, sn_up_ne _ w1]
theorem lvs_a (h : Nat) (A B : List pth) : lvs h (A ++ B) = lvs h A ++ lvs h B := List.filter_append _ _
theorem lvs_n (h : Nat) : lvs h [] = [] := rfl
/-- no brother fits -/
theorem sibs_no {ft : Nat → Nat → Bool} {F : pth → List pth} {k : Nat} {st : pth} : ∀ {c q : Nat}, (∀ t, q ≤ t → t < q + c → ¬ (ptn st t = -1 ∧ ft k t = true)) → sibs ft F k st c q = [] := by
  intro c
  induction c with
  | zero => intro q _; rfl
  | succ c ih =>
    intro q h
    show (if ptn st q = -1 ∧ ft k q = true then F ((k, q) :: st) else []) ++ sibs ft F k st c (q + 1) = []
    rw [if_neg (h q (by omega) (by omega)), ih (fun t h1 h2 => h t (by omega) (by omega))]
    rfl
/-- the first that fits -/
theorem sibs_at {ft : Nat → Nat → Bool} {F : pth → List pth} {k : Nat} {st : pth} {p : Nat} : ∀ {c q : Nat}, q ≤ p → p < q + c → (∀ t, q ≤ t → t < p → ¬ (ptn st t = -1 ∧ ft k t = true)) → (ptn st p = -1 ∧ ft k p = true) → sibs ft F k st c q = F ((k, p) :: st) ++ sibs ft F k st (q + c - (p + 1)) (p + 1) := by
  intro c
  induction c with
  | zero => intro q h1 h2; omega
  | succ c ih =>
    intro q h1 h2 h3 h4
    show (if ptn st q = -1 ∧ ft k q = true then F ((k, q) :: st) else []) ++ sibs ft F k st c (q + 1) = _
    by_cases w : q = p
    · subst w
      rw [if_pos h4, show q + (c + 1) - (q + 1) = c by omega]
    · rw [if_neg (h3 q (Nat.le_refl q) (by omega)), List.nil_append, ih (q := q + 1) (by omega) (by omega) (fun t h5 h6 => h3 t (by omega) h6) h4, show q + 1 + c - (p + 1) = q + (c + 1) - (p + 1) by omega]
theorem W_in {n : Nat} {ft : Nat → Nat → Bool} {h : Nat} {st : pth} (hl : st.length < h) : Wl n ft h st = st :: (sibs ft (pre n ft (h - (st.length + 1))) (fa (ptn st) n) st (n - (fa (ptn st) n + 1)) (fa (ptn st) n + 1) ++ rest n ft h st) := by
  unfold Wl
  obtain ⟨m, hm⟩ : ∃ m, h - st.length = m + 1 := ⟨h - st.length - 1, by omega⟩
  rw [hm, show h - (st.length + 1) = m by omega]
  rfl
theorem W_full {n : Nat} {ft : Nat → Nat → Bool} {h : Nat} {st : pth} (hl : st.length = h) : Wl n ft h st = st :: rest n ft h st := by
  unfold Wl
  rw [hl, Nat.sub_self]
  rfl
/-- the first child, or what comes after -/
theorem W_down {n : Nat} {ft : Nat → Nat → Bool} {h : Nat} {st : pth} {p : Nat} (hl : st.length < h) (h1 : fa (ptn st) n < p) (h2 : p < n) (h3 : ∀ t, fa (ptn st) n < t → t < p → ¬ (ptn st t = -1 ∧ ft (fa (ptn st) n) t = true)) (h4 : ptn st p = -1 ∧ ft (fa (ptn st) n) p = true) : Wl n ft h st = st :: Wl n ft h ((fa (ptn st) n, p) :: st) := by
  rw [W_in hl, sibs_at (p := p) (by omega) (by omega) (fun t h5 h6 => h3 t (by omega) h6) h4, List.append_assoc]
  rw [show fa (ptn st) n + 1 + (n - (fa (ptn st) n + 1)) - (p + 1) = n - (p + 1) by omega]
  rfl
theorem W_none {n : Nat} {ft : Nat → Nat → Bool} {h : Nat} {st : pth} (hl : st.length < h) (h3 : ∀ t, fa (ptn st) n < t → t < n → ¬ (ptn st t = -1 ∧ ft (fa (ptn st) n) t = true)) : Wl n ft h st = st :: rest n ft h st := by
  rw [W_in hl, sibs_no (fun t h1 h2 => h3 t (by omega) (by omega)), List.nil_append]
theorem rest_next {n : Nat} {ft : Nat → Nat → Bool} {h : Nat} {k p q : Nat} {st : pth} (h1 : p < q) (h2 : q < n) (h3 : ∀ t, p < t → t < q → ¬ (ptn st t = -1 ∧ ft k t = true)) (h4 : ptn st q = -1 ∧ ft k q = true) : rest n ft h ((k, p) :: st) = Wl n ft h ((k, q) :: st) := by
  show sibs ft (pre n ft (h - (st.length + 1))) k st (n - (p + 1)) (p + 1) ++ rest n ft h st = pre n ft (h - (st.length + 1)) ((k, q) :: st) ++ (sibs ft (pre n ft (h - (st.length + 1))) k st (n - (q + 1)) (q + 1) ++ rest n ft h st)
  rw [sibs_at (p := q) (by omega) (by omega) (fun t h5 h6 => h3 t (by omega) h6) h4, List.append_assoc, show p + 1 + (n - (p + 1)) - (q + 1) = n - (q + 1) by omega]
theorem rest_up {n : Nat} {ft : Nat → Nat → Bool} {h : Nat} {k p : Nat} {st : pth} (h3 : ∀ t, p < t → t < n → ¬ (ptn st t = -1 ∧ ft k t = true)) : rest n ft h ((k, p) :: st) = rest n ft h st := by
  show sibs ft (pre n ft (h - (st.length + 1))) k st (n - (p + 1)) (p + 1) ++ rest n ft h st = _
  rw [sibs_no (fun t h1 h2 => h3 t (by omega) (by omega)), List.nil_append]
/-- all that are reached are well formed -/
theorem sibs_mem {ft : Nat → Nat → Bool} {F : pth → List pth} {k : Nat} {st z : pth} : ∀ {c q : Nat}, z ∈ sibs ft F k st c q → ∃ t, q ≤ t ∧ t < q + c ∧ (ptn st t = -1 ∧ ft k t = true) ∧ z ∈ F ((k, t) :: st) := by
  intro c
  induction c with
  | zero => intro q h; cases h
  | succ c ih =>
    intro q h
    rcases List.mem_append.mp h with h | h
    · by_cases w : ptn st q = -1 ∧ ft k q = true
      · rw [if_pos w] at h
        exact ⟨q, Nat.le_refl q, by omega, w, h⟩
      · rw [if_neg w] at h
        cases h
    · obtain ⟨t, h1, h2, h3, h4⟩ := ih h
      exact ⟨t, by omega, by omega, h3, h4⟩
theorem pre_wf {n : Nat} {ft : Nat → Nat → Bool} : ∀ {m : Nat} {st z : pth}, wf n ft st → 2 * (st.length + m) ≤ n → z ∈ pre n ft m st → wf n ft z := by
  intro m
  induction m with
  | zero => intro st z h _ hz; rw [List.mem_singleton.mp hz]; exact h
  | succ m ih =>
    intro st z h hl hz
    rcases List.mem_cons.mp hz with rfl | hz
    · exact h
    · obtain ⟨t, t1, t2, t3, t4⟩ := sibs_mem hz
      have := wf_fa h (by omega)
      exact ih (st := (fa (ptn st) n, t) :: st) ⟨h, rfl, by show fa (ptn st) n < t; omega, by show t < n; omega, t3.1, t3.2⟩ (by rw [List.length_cons]; omega) t4
theorem wf_push {n : Nat} {ft : Nat → Nat → Bool} {st : pth} {p : Nat} (h : wf n ft st) (h1 : fa (ptn st) n < p) (h2 : p < n) (h4 : ptn st p = -1 ∧ ft (fa (ptn st) n) p = true) : wf n ft ((fa (ptn st) n, p) :: st) := ⟨h, rfl, h1, h2, h4.1, h4.2⟩
/-- how many complete ones there are -/
def fac : Nat → Nat
  | 0 => 1
  | m + 1 => (m + 1) * fac m
def acr (g : Nat → Int) (r : Nat → Bool) (b : Bool) : Nat → Nat
  | 0 => 0
  | n + 1 => acr g r b n + (if g n = -1 ∧ r n = b then 1 else 0)
theorem acr_up {g : Nat → Int} {r : Nat → Bool} {b : Bool} {k : Nat} {v : Int} (h1 : g k = -1) (hv : ¬ v = -1) : ∀ n, acr (sn_up g k v) r b n + (if k < n ∧ r k = b then 1 else 0) = acr g r b n := by
  intro n
  induction n with
  | zero =>
    show 0 + (if k < 0 ∧ r k = b then 1 else 0) = 0
    rw [if_neg (fun (z : k < 0 ∧ r k = b) => Nat.not_lt_zero k z.1)]
  | succ n ih =>
    show acr (sn_up g k v) r b n + (if sn_up g k v n = -1 ∧ r n = b then 1 else 0) + (if k < n + 1 ∧ r k = b then 1 else 0) = acr g r b n + (if g n = -1 ∧ r n = b then 1 else 0)
    by_cases w : n = k
    · subst w
      rw [sn_up_at, if_neg (fun z => hv z.1)]
      rw [if_neg (fun (z : n < n ∧ r n = b) => Nat.lt_irrefl n z.1)] at ih
      by_cases c : r n = b
      · rw [if_pos ⟨Nat.lt_succ_self n, c⟩, if_pos ⟨h1, c⟩]
        omega
      · rw [if_neg (fun (z : n < n + 1 ∧ r n = b) => c z.2), if_neg (fun (z : g n = -1 ∧ r n = b) => c z.2)]
        omega
    · rw [sn_up_ne _ w]
      by_cases c : k < n ∧ r k = b
      · rw [if_pos (show k < n + 1 ∧ r k = b from ⟨by omega, c.2⟩)]
        rw [if_pos c] at ih
        omega
      · rw [if_neg (show ¬ (k < n + 1 ∧ r k = b) from fun z => c ⟨by omega, z.2⟩)]
        rw [if_neg c] at ih
        omega
theorem acr_0 {g : Nat → Int} {r : Nat → Bool} {b : Bool} {n : Nat} (h : ∀ j, j < n → ¬ g j = -1) : acr g r b n = 0 := by
  induction n with
  | zero => rfl
  | succ n ih =>
    show acr g r b n + (if g n = -1 ∧ r n = b then 1 else 0) = 0
    rw [ih (fun j hj => h j (by omega)), if_neg (fun z => h n (by omega) z.1)]
theorem acr_ac (g : Nat → Int) (r : Nat → Bool) : ∀ n, acr g r true n + acr g r false n = ac g n := by
  intro n
  induction n with
  | zero => rfl
  | succ n ih =>
    show acr g r true n + (if g n = -1 ∧ r n = true then 1 else 0) + (acr g r false n + (if g n = -1 ∧ r n = false then 1 else 0)) = ac g n + (if g n = -1 then 1 else 0)
    by_cases c : g n = -1
    · cases hr : r n with
      | true => rw [if_pos ⟨c, rfl⟩, if_neg (fun z => by cases z.2), if_pos c]; omega
      | false => rw [if_neg (fun z => by cases z.2), if_pos ⟨c, rfl⟩, if_pos c]; omega
    · rw [if_neg (fun z => c z.1), if_neg (fun z => c z.1), if_neg c]
      omega
/-- a pair takes one of each sign -/
theorem acr_push {n : Nat} {ft : Nat → Nat → Bool} {r : Nat → Bool} (hr : ∀ k p, ft k p = true → r k = !r p) {x : Nat × Nat} {st : pth} (h : wf n ft (x :: st)) (b : Bool) : acr (ptn (x :: st)) r b n + 1 = acr (ptn st) r b n := by
  obtain ⟨h0, h1, h2, h3, h4, h5⟩ := h
  obtain ⟨f1, f2, -⟩ := fa_ok (ptn st) n
  have k1 : ptn st x.1 = -1 := by rw [h1]; exact f2 (by omega)
  have a1 := acr_up (r := r) (b := b) (k := x.1) (v := (x.2 : Int)) k1 (by omega) n
  have k2 : sn_up (ptn st) x.1 (x.2 : Int) x.2 = -1 := by rw [sn_up_ne _ (by omega)]; exact h4
  have a2 := acr_up (r := r) (b := b) (k := x.2) (v := (x.1 : Int)) k2 (by omega) n
  have e := hr _ _ h5
  show acr (sn_up (sn_up (ptn st) x.1 (x.2 : Int)) x.2 (x.1 : Int)) r b n + 1 = _
  by_cases c : r x.1 = b
  · rw [if_pos ⟨by omega, c⟩] at a1
    rw [if_neg (fun z => by rw [z.2, c] at e; cases b <;> cases e)] at a2
    omega
  · rw [if_neg (fun z => c z.2)] at a1
    rw [if_pos ⟨h3, by
      cases b <;> cases hx : r x.2 <;> rw [hx] at e <;> first | rfl | exact absurd e c⟩] at a2
    omega
theorem pre_bal {n : Nat} {ft : Nat → Nat → Bool} {r : Nat → Bool} (hr : ∀ k p, ft k p = true → r k = !r p) : ∀ {m : Nat} {st z : pth}, wf n ft st → 2 * (st.length + m) ≤ n → z ∈ pre n ft m st → acr (ptn z) r true n + acr (ptn st) r false n = acr (ptn z) r false n + acr (ptn st) r true n := by
  intro m
  induction m with
  | zero => intro st z h _ hz; rw [List.mem_singleton.mp hz]; omega
  | succ m ih =>
    intro st z h hl hz
    rcases List.mem_cons.mp hz with rfl | hz
    · omega
    · obtain ⟨t, t1, t2, t3, t4⟩ := sibs_mem hz
      have := wf_fa h (by omega)
      have w := wf_push h (p := t) (by omega) (by omega) t3
      have := ih w (by rw [List.length_cons]; omega) t4
      have := acr_push hr w true
      have := acr_push hr w false
      omega
def okc (ft : Nat → Nat → Bool) (k : Nat) (st : pth) : Nat → Nat → Nat
  | 0, _ => 0
  | c + 1, q => (if ptn st q = -1 ∧ ft k q = true then 1 else 0) + okc ft k st c (q + 1)
theorem okc_le {ft : Nat → Nat → Bool} {r : Nat → Bool} (hr : ∀ k p, ft k p = true → r k = !r p) {k : Nat} {st : pth} : ∀ {c q : Nat}, okc ft k st c q + acr (ptn st) r (!r k) q ≤ acr (ptn st) r (!r k) (q + c) := by
  intro c
  induction c with
  | zero => intro q; show 0 + _ ≤ _; rw [Nat.zero_add]; exact Nat.le_refl _
  | succ c ih =>
    intro q
    have ih := ih (q := q + 1)
    rw [show q + 1 + c = q + (c + 1) by omega] at ih
    have e : acr (ptn st) r (!r k) (q + 1) = acr (ptn st) r (!r k) q + (if ptn st q = -1 ∧ r q = !r k then 1 else 0) := rfl
    show (if ptn st q = -1 ∧ ft k q = true then 1 else 0) + okc ft k st c (q + 1) + _ ≤ _
    rw [e] at ih
    by_cases c1 : ptn st q = -1 ∧ ft k q = true
    · rw [if_pos c1]
      rw [if_pos ⟨c1.1, by rw [hr _ _ c1.2, Bool.not_not]⟩] at ih
      omega
    · rw [if_neg c1]
      omega
theorem sibs_len {ft : Nat → Nat → Bool} {F : pth → List pth} {h k B : Nat} {st : pth} : ∀ {c q : Nat}, (∀ t, q ≤ t → t < q + c → (ptn st t = -1 ∧ ft k t = true) → (lvs h (F ((k, t) :: st))).length ≤ B) → (lvs h (sibs ft F k st c q)).length ≤ okc ft k st c q * B := by
  intro c
  induction c with
  | zero => intro q _; exact Nat.zero_le _
  | succ c ih =>
    intro q hF
    show (lvs h ((if ptn st q = -1 ∧ ft k q = true then F ((k, q) :: st) else []) ++ sibs ft F k st c (q + 1))).length ≤ ((if ptn st q = -1 ∧ ft k q = true then 1 else 0) + okc ft k st c (q + 1)) * B
    rw [lvs_a, List.length_append, Nat.add_mul]
    have ih := ih (q := q + 1) (fun t h1 h2 => hF t (by omega) (by omega))
    by_cases c1 : ptn st q = -1 ∧ ft k q = true
    · have := hF q (Nat.le_refl q) (by omega) c1
      rw [if_pos c1, if_pos c1, Nat.one_mul]
      omega
    · rw [if_neg c1, if_neg c1, lvs_n]
      simp only [List.length_nil]
      omega
theorem pre_len {n : Nat} {ft : Nat → Nat → Bool} {r : Nat → Bool} (hr : ∀ k p, ft k p = true → r k = !r p) : ∀ {m : Nat} {st : pth}, wf n ft st → 2 * (st.length + m) = n → (lvs (st.length + m) (pre n ft m st)).length ≤ fac m := by
  intro m
  induction m with
  | zero =>
    intro st _ _
    exact List.length_filter_le _ _
  | succ m ih =>
    intro st h hl
    have hfa := wf_fa h (by omega)
    by_cases hz : lvs (st.length + (m + 1)) (pre n ft (m + 1) st) = []
    · rw [hz]
      exact Nat.zero_le _
    · obtain ⟨z, hz⟩ := List.exists_mem_of_ne_nil _ hz
      obtain ⟨z1, z2⟩ := List.mem_filter.mp hz
      have z2 : z.length = st.length + (m + 1) := of_decide_eq_true z2
      have bal := pre_bal hr h (by omega) z1
      have wz := pre_wf h (by omega) z1
      have fz := wf_full wz (by omega)
      rw [acr_0 fz, acr_0 fz] at bal
      have sum := acr_ac (ptn st) r n
      have tot := wf_ac h
      have both : ∀ b, acr (ptn st) r b n = m + 1 := fun b => by cases b <;> omega
      have e : pre n ft (m + 1) st = st :: sibs ft (pre n ft m) (fa (ptn st) n) st (n - (fa (ptn st) n + 1)) (fa (ptn st) n + 1) := rfl
      have e2 : lvs (st.length + (m + 1)) (pre n ft (m + 1) st) = lvs (st.length + (m + 1)) (sibs ft (pre n ft m) (fa (ptn st) n) st (n - (fa (ptn st) n + 1)) (fa (ptn st) n + 1)) := by
        rw [e]
        exact List.filter_cons_of_neg (by rw [decide_eq_true_eq]; omega)
      rw [e2]
      refine Nat.le_trans (sibs_len (B := fac m) (fun t h1 h2 h3 => ?_)) (Nat.mul_le_mul_right _ ?_)
      · have w := wf_push h (p := t) (by omega) (by omega) h3
        have := ih w (by rw [List.length_cons]; omega)
        rw [List.length_cons, show st.length + 1 + m = st.length + (m + 1) by omega] at this
        exact this
      · have := okc_le hr (k := fa (ptn st) n) (st := st) (c := n - (fa (ptn st) n + 1)) (q := fa (ptn st) n + 1)
        rw [show fa (ptn st) n + 1 + (n - (fa (ptn st) n + 1)) = n by omega, both] at this
        omega
