/-! Which rule is last in a piece; the row of rules. -/
theorem bx {f g : Nat → Bool} (h : ∀ v, f v = true ↔ g v = true) : f = g := by
  funext v
  have := h v
  cases hf : f v <;> cases hg : g v <;> rw [hf, hg] at this <;> simp at this <;> rfl
theorem ib_eq {m n : Int64} (h : ∀ v, ib m v = true ↔ ib n v = true) : m = n := ib_ext (fun l _ => congrFun (bx h) l)
/-- without one link -/
theorem ib_rm {W : Int64} {l : Nat} (hl : l < 64) : ib (W &&& (sn_shl 1 (l : Int) ^^^ (-1))) = rm (ib W) l := by
  refine bx (fun v => ?_)
  rw [rm_in, ib_and, Bool.and_eq_true]
  by_cases hv : v < 64
  · rw [ib_not _ hv, ib_bit hl hv, Bool.not_eq_true', decide_eq_false_iff_not]
  · exact ⟨fun h => absurd (ib_64 h.1) hv, fun h => absurd (ib_64 h.1) hv⟩
theorem ib_dif (W L : Int64) (v : Nat) : ib (W &&& (L ^^^ (-1))) v = true ↔ (ib W v = true ∧ ¬ ib L v = true) := by
  rw [ib_and, Bool.and_eq_true]
  by_cases hv : v < 64
  · rw [ib_not _ hv, Bool.not_eq_true', Bool.not_eq_true]
  · exact ⟨fun h => absurd (ib_64 h.1) hv, fun h => absurd (ib_64 h.1) hv⟩
/-- a lowest link that splits the piece -/
def spl (S : sT) (P : Nat → Bool) (t : Nat) : Prop := (S.1 0 t = 1 ∨ S.1 0 t = 3) ∧ low S P t ∧ ¬ cn (pG S (rm P t)) (sl S t) (sr S t)
def nlp (S : sT) (P : Nat → Bool) (n : Nat) : Prop := ∀ k, k < n → P k = true → S.1 0 k = 2 → ¬ low S P k
def nsp (S : sT) (P : Nat → Bool) (n : Nat) : Prop := ∀ k, k < n → P k = true → ¬ spl S P k
def lr (S : sT) (P : Nat → Bool) (l : Nat) : Prop := P l = true ∧ ((S.1 0 l = 2 ∧ low S P l ∧ nlp S P l) ∨ (nlp S P S.2.1 ∧ spl S P l ∧ nsp S P l) ∨ (nlp S P S.2.1 ∧ nsp S P S.2.1 ∧ S.1 0 l = 0))
theorem np_pos {S : sT} {P : Nat → Bool} (h : np S P) : 1 ≤ (pA S P).length := by
  have := h.2.2.2.1
  omega
theorem lr_one {S : sT} (h3k : ∀ l, l < S.2.1 → S.1 0 l ≤ 3) {P : Nat → Bool} (h : np S P) (h1 : nlp S P S.2.1) (h2 : nsp S P S.2.1) : (pA S P).length = 1 ∧ ∃ a, P a = true ∧ S.1 0 a = 0 ∧ ∀ l, P l = true → l = a := by
  have lt : (pA S P).length < 2 := Classical.byContradiction (fun z => by
    obtain ⟨t, t1, t2, t3, t4⟩ := np_ex h3k h (fun k hk k2 => h1 k (h.1.1 k hk).1 hk k2) (by omega)
    exact h2 t (h.1.1 t t1).1 t1 ⟨t2, t3, t4⟩)
  have := np_pos h
  exact ⟨by omega, np_one h3k h lt⟩
theorem lr_u {S : sT} (h3k : ∀ l, l < S.2.1 → S.1 0 l ≤ 3) {P : Nat → Bool} (h : np S P) {l m : Nat} (hl : lr S P l) (hm : lr S P m) : l = m := by
  obtain ⟨l0, hl⟩ := hl
  obtain ⟨m0, hm⟩ := hm
  have l9 := (h.1.1 l l0).1
  have m9 := (h.1.1 m m0).1
  rcases hl with ⟨l1, l2, l3⟩ | ⟨l1, l2, l3⟩ | ⟨l1, l2, l3⟩ <;> rcases hm with ⟨m1, m2, m3⟩ | ⟨m1, m2, m3⟩ | ⟨m1, m2, m3⟩
  · rcases Nat.lt_trichotomy l m with z | z | z
    · exact absurd l2 (m3 l z l0 l1)
    · exact z
    · exact absurd m2 (l3 m z m0 m1)
  · exact absurd l2 (m1 l l9 l0 l1)
  · exact absurd l2 (m1 l l9 l0 l1)
  · exact absurd m2 (l1 m m9 m0 m1)
  · rcases Nat.lt_trichotomy l m with z | z | z
    · exact absurd l2 (m3 l z l0)
    · exact z
    · exact absurd m2 (l3 m z m0)
  · exact absurd l2 (m2 l l9 l0)
  · exact absurd m2 (l1 m m9 m0 m1)
  · exact absurd m2 (l2 m m9 m0)
  · obtain ⟨-, a, -, -, h3⟩ := lr_one h3k h l1 l2
    rw [h3 l l0, h3 m m0]
/-- one rule read: what is left of the piece -/
def rst (S : sT) (W : Int64) (l : Nat) (A : List Int64) : Prop := lr S (ib W) l ∧ ((S.1 0 l = 0 ∧ A = []) ∨ (S.1 0 l = 2 ∧ ∃ R : Int64, ib R = rm (ib W) l ∧ A = [R]) ∨ ((S.1 0 l = 1 ∨ S.1 0 l = 3) ∧ ∃ L R : Int64, (∀ v, ib L v = true ↔ (rm (ib W) l v = true ∧ cn (pG S (rm (ib W) l)) (sl S l) v)) ∧ (∀ v, ib R v = true ↔ (rm (ib W) l v = true ∧ ¬ ib L v = true)) ∧ A = [L, R]))
theorem rst_u {S : sT} (h3k : ∀ l, l < S.2.1 → S.1 0 l ≤ 3) {W : Int64} (h : np S (ib W)) {l m : Nat} {A B : List Int64} (hl : rst S W l A) (hm : rst S W m B) : l = m ∧ A = B := by
  obtain rfl := lr_u h3k h hl.1 hm.1
  refine ⟨rfl, ?_⟩
  rcases hl.2 with ⟨k, rfl⟩ | ⟨k, R, h1, rfl⟩ | ⟨k, L, R, h1, h2, rfl⟩ <;> rcases hm.2 with ⟨k', rfl⟩ | ⟨k', R', g1, rfl⟩ | ⟨k', L', R', g1, g2, rfl⟩
  · rfl
  · omega
  · omega
  · omega
  · rw [ib_eq (m := R) (n := R') (fun v => by rw [h1, g1])]
  · omega
  · omega
  · omega
  · have e : L = L' := ib_eq (fun v => (h1 v).trans (g1 v).symm)
    subst e
    rw [ib_eq (m := R) (n := R') (fun v => (h2 v).trans (g2 v).symm)]
def wt (S : sT) (A : List Int64) : Nat := (A.map (fun W => (pA S (ib W)).length)).sum
theorem wt_a (S : sT) (A B : List Int64) : wt S (A ++ B) = wt S A + wt S B := by
  unfold wt
  rw [List.map_append, List.sum_append]
theorem wt_c (S : sT) (W : Int64) (B : List Int64) : wt S (W :: B) = (pA S (ib W)).length + wt S B := by
  unfold wt
  rw [List.map_cons, List.sum_cons]
theorem wt_n (S : sT) : wt S [] = 0 := rfl
theorem rst_np {S : sT} (h3k : ∀ l, l < S.2.1 → S.1 0 l ≤ 3) {W : Int64} (h : np S (ib W)) {l : Nat} {A : List Int64} (hl : rst S W l A) : (∀ X ∈ A, np S (ib X)) ∧ wt S A + 1 = (pA S (ib W)).length := by
  obtain ⟨⟨l0, hl⟩, hA⟩ := hl
  have l9 := h.1.1 l l0
  have lin : l ∈ pA S (ib W) := pA_in.mpr ⟨sA_in.mpr l9, l0⟩
  have e1 := pA_rm lin
  rcases hA with ⟨k, rfl⟩ | ⟨k, R, h1, rfl⟩ | ⟨k, L, R, h1, h2, rfl⟩
  · refine ⟨fun X hX => (by cases hX), ?_⟩
    rcases hl with ⟨l1, -⟩ | ⟨-, l1, -⟩ | ⟨l1, l2, -⟩
    · omega
    · have := l1.1; omega
    · rw [(lr_one h3k h l1 l2).1]
      rfl
  · have lw : low S (ib W) l := by
      rcases hl with ⟨-, l2, -⟩ | ⟨-, l2, -⟩ | ⟨-, -, l3⟩
      · exact l2
      · exact l2.2.1
      · omega
    refine ⟨fun X hX => ?_, ?_⟩
    · rw [List.mem_singleton.mp hX, h1]
      exact np_par h l0 k lw
    · rw [wt_c, wt_n, h1]
      omega
  · have sp : spl S (ib W) l := by
      rcases hl with ⟨l1, -⟩ | ⟨-, l2, -⟩ | ⟨-, -, l3⟩
      · omega
      · exact l2
      · omega
    obtain ⟨-, lw, nc⟩ := sp
    have hR : ib R = (fun v => rm (ib W) l v && !ib L v) := bx (fun v => by rw [h2 v, Bool.and_eq_true, Bool.not_eq_true', Bool.not_eq_true])
    obtain ⟨n1, n2⟩ := np_split h3k h l0 k lw h1 (fun z => nc ((h1 _).mp z).2)
    refine ⟨fun X hX => ?_, ?_⟩
    · rcases List.mem_cons.mp hX with rfl | hX
      · exact n1
      · rw [List.mem_singleton.mp hX, hR]
        exact n2
    · rw [wt_c, wt_c, wt_n, hR]
      have := len_fp (ib L) (pA S (rm (ib W) l))
      have a : (pA S (rm (ib W) l)).filter (ib L) = pA S (ib L) := by
        unfold pA
        rw [List.filter_filter]
        refine List.filter_congr (fun x _ => ?_)
        cases hx : ib L x with
        | false => rfl
        | true => rw [((h1 x).mp hx).1]; rfl
      have b : (pA S (rm (ib W) l)).filter (fun x => !ib L x) = pA S (fun v => rm (ib W) l v && !ib L v) := by
        unfold pA
        rw [List.filter_filter]
        exact List.filter_congr (fun x _ => Bool.and_comm _ _)
      rw [a, b] at this
      omega
/-- the row of rules of what waits -/
def rr (S : sT) : List Nat → List Int64 → Prop
  | [], st => st = []
  | l :: rows, st => ∃ (W : Int64) (t A : List Int64), st = W :: t ∧ rst S W l A ∧ rr S rows (A ++ t)
theorem rr_u {S : sT} (h3k : ∀ l, l < S.2.1 → S.1 0 l ≤ 3) : ∀ {r r' : List Nat} {st : List Int64}, (∀ W ∈ st, np S (ib W)) → rr S r st → rr S r' st → r = r' := by
  intro r
  induction r with
  | nil =>
    intro r' st _ h1 h2
    have h1 : st = [] := h1
    cases r' with
    | nil => rfl
    | cons l r' =>
      obtain ⟨W, t, A, h3, -⟩ := h2
      rw [h1] at h3
      cases h3
  | cons l r ih =>
    intro r' st hn h1 h2
    obtain ⟨W, t, A, rfl, h4, h5⟩ := h1
    cases r' with
    | nil =>
      have h2 : W :: t = [] := h2
      cases h2
    | cons l' r' =>
      obtain ⟨W', t', A', e, g4, g5⟩ := h2
      cases e
      obtain ⟨rfl, rfl⟩ := rst_u h3k (hn W List.mem_cons_self) h4 g4
      rw [ih (fun X hX => ?_) h5 g5]
      rcases List.mem_append.mp hX with hX | hX
      · exact (rst_np h3k (hn W List.mem_cons_self) h4).1 X hX
      · exact hn X (List.mem_cons_of_mem _ hX)
theorem rr_len {S : sT} (h3k : ∀ l, l < S.2.1 → S.1 0 l ≤ 3) : ∀ {r : List Nat} {st : List Int64}, (∀ W ∈ st, np S (ib W)) → rr S r st → r.length = wt S st := by
  intro r
  induction r with
  | nil =>
    intro st _ h1
    have h1 : st = [] := h1
    rw [h1]
    rfl
  | cons l r ih =>
    intro st hn h1
    obtain ⟨W, t, A, rfl, h4, h5⟩ := h1
    obtain ⟨n1, n2⟩ := rst_np h3k (hn W List.mem_cons_self) h4
    have := ih (fun X hX => by
      rcases List.mem_append.mp hX with hX | hX
      · exact n1 X hX
      · exact hn X (List.mem_cons_of_mem _ hX)) h5
    rw [wt_a] at this
    rw [wt_c, List.length_cons]
    omega
theorem wt_le {S : sT} : ∀ {st : List Int64}, (∀ W ∈ st, np S (ib W)) → st.length ≤ wt S st := by
  intro st
  induction st with
  | nil => intro _; exact Nat.zero_le _
  | cons W t ih =>
    intro h
    have h1 := ih (fun X hX => h X (List.mem_cons_of_mem _ hX))
    have h2 := np_pos (h W List.mem_cons_self)
    rw [wt_c, List.length_cons]
    omega
/-- what waits, as it lies in a row; the rules read so far -/
def sv (g : Nat → Int64) (st : List Int64) : Prop := ∀ (j : Nat) (X : Int64), st.reverse[j]? = some X → g j = X
def rv (g : Nat → Int) (r : List Nat) : Prop := ∀ (j l : Nat), r[j]? = some l → g j = (l : Int)
theorem sv_top {g : Nat → Int64} {W : Int64} {t : List Int64} (h : sv g (W :: t)) : g t.length = W := by
  refine h t.length W ?_
  rw [List.reverse_cons, List.getElem?_append_right (by simp), List.length_reverse, Nat.sub_self]
  rfl
theorem sv_pop {g : Nat → Int64} {W : Int64} {t : List Int64} (h : sv g (W :: t)) : sv g t := by
  intro j X hj
  refine h j X ?_
  have := (List.getElem?_eq_some_iff.mp hj).1
  rw [List.reverse_cons, List.getElem?_append_left this]
  exact hj
theorem sv_push {g g' : Nat → Int64} {X : Int64} {t : List Int64} (h : sv g t) (h1 : ∀ j, j < t.length → g' j = g j) (h2 : g' t.length = X) : sv g' (X :: t) := by
  intro j Y hj
  have lt := (List.getElem?_eq_some_iff.mp hj).1
  rw [List.length_reverse, List.length_cons] at lt
  rw [List.reverse_cons] at hj
  by_cases z : j = t.length
  · subst z
    rw [List.getElem?_append_right (by simp), List.length_reverse, Nat.sub_self] at hj
    rw [h2]
    exact Option.some.inj hj
  · have lt2 : j < t.reverse.length := by rw [List.length_reverse]; omega
    rw [List.getElem?_append_left lt2] at hj
    rw [h1 j (by omega)]
    exact h j Y hj
theorem rv_push {g g' : Nat → Int} {l : Nat} {r : List Nat} (h : rv g r) (h1 : ∀ j, j < r.length → g' j = g j) (h2 : g' r.length = (l : Int)) : rv g' (r ++ [l]) := by
  intro j m hj
  have lt := (List.getElem?_eq_some_iff.mp hj).1
  rw [List.length_append, List.length_singleton] at lt
  by_cases z : j = r.length
  · subst z
    rw [List.getElem?_append_right (Nat.le_refl _), Nat.sub_self] at hj
    rw [h2, show l = m from Option.some.inj hj]
  · rw [List.getElem?_append_left (by omega)] at hj
    rw [h1 j (by omega)]
    exact h j m hj
/-- what is below a link is known by its edge -/
theorem s_e3 {T : fT} {S : sT} (h : s_ok T S) {m l : Nat} (hm : m < S.2.1) (hk : 1 ≤ S.1 0 m) (hl : 1 ≤ S.1 0 l) (hs : sl S m = l ∨ sr S m = l) : ¬ S.1 3 l = -1 ∧ S.1 6 (S.1 3 l).toNat = (m : Int) := by
  obtain ⟨a1, a2, -, a4, a5⟩ := (h.2.1 m hm).2.2.1 hk
  have side : ∀ (x : Int), s_al S x → S.1 6 x.toNat = (m : Int) → (S.1 5 x.toNat).toNat = l → ¬ S.1 3 l = -1 ∧ S.1 6 (S.1 3 l).toNat = (m : Int) := by
    intro x hx hu e
    have w := h.2.2.1 x.toNat (by have := hx.1; have := hx.2.1; omega)
    have w3 := (w.2.2.2.2 hx.2.2).2.2.1
    rw [e] at w3
    have z := w3 hl
    have x0 := hx.1
    have xe : S.1 3 l = x := by omega
    rw [xe]
    exact ⟨by omega, hu⟩
  rcases hs with z | z
  · exact side _ a1 a4 z
  · exact side _ a2 a5 z
theorem s_k12 {T : fT} {S : sT} (h : s_ok T S) {l : Nat} (hl : l < S.2.1) (hk : 1 ≤ S.1 0 l) (h3 : ¬ S.1 3 l = -1) : S.1 0 l = 1 ∨ S.1 0 l = 2 := by
  have l3 := s_k3 h l hl
  by_cases k3 : S.1 0 l = 3
  · exact absurd ((h.2.1 l hl).2.2.2.2 k3).1 h3
  · omega
theorem low_iff {T : fT} {S : sT} (h : s_ok T S) {P : Nat → Bool} (hP : upc S P) {l : Nat} (hl : P l = true) (hk : 1 ≤ S.1 0 l) : low S P l ↔ (S.1 3 l = -1 ∨ ∀ v : Nat, S.1 6 (S.1 3 l).toNat = (v : Int) → ¬ P v = true) := by
  have l1 := (hP.1 l hl).1
  constructor
  · intro hw
    by_cases z : S.1 3 l = -1
    · exact Or.inl z
    · refine Or.inr (fun v hv hPv => ?_)
      obtain ⟨a1, a2, -⟩ := (h.2.1 l l1).2.2.2.1 (s_k12 h l1 hk z)
      obtain ⟨-, u⟩ := s_us h a1
      obtain ⟨v1, v2, v3⟩ := u v hv
      obtain ⟨w1, w2⟩ := hw v hPv v2
      rcases v3 with y | y
      · exact w1 (by unfold sl; rw [y, a2]; rfl)
      · exact w2 (by unfold sr; rw [y, a2]; rfl)
  · intro hw m hm k
    have m1 := (hP.1 m hm).1
    refine ⟨fun z => ?_, fun z => ?_⟩
    · obtain ⟨y1, y2⟩ := s_e3 h m1 k hk (Or.inl z)
      rcases hw with w | w
      · exact y1 w
      · exact w m y2 hm
    · obtain ⟨y1, y2⟩ := s_e3 h m1 k hk (Or.inr z)
      rcases hw with w | w
      · exact y1 w
      · exact w m y2 hm
