/-! Pieces of a net: sets of links that are nets by themselves. -/
def pA (S : sT) (P : Nat → Bool) : List Nat := (sA S).filter P
def pE (S : sT) (P : Nat → Bool) : List (Nat × Nat) := (sE S).filter (fun e => P e.2)
def pQ (S : sT) (P : Nat → Bool) : List (Nat × Nat × Nat) := (sQ S).filter (fun q => P q.1)
def pG (S : sT) (P : Nat → Bool) : List (Nat × Nat) := pE S P ++ bp (pQ S P)
/-- sources of the premises of l -/
def sl (S : sT) (l : Nat) : Nat := (S.1 5 (S.1 1 l).toNat).toNat
def sr (S : sT) (l : Nat) : Nat := (S.1 5 (S.1 2 l).toNat).toNat
def upc (S : sT) (P : Nat → Bool) : Prop := (∀ l, P l = true → l < S.2.1 ∧ 0 ≤ S.1 0 l) ∧ ∀ l, P l = true → 1 ≤ S.1 0 l → P (sl S l) = true ∧ P (sr S l) = true
def np (S : sT) (P : Nat → Bool) : Prop := upc S P ∧ gd (pA S P) (pE S P) (pQ S P)
/-- no edge of l goes to a link of P -/
def low (S : sT) (P : Nat → Bool) (l : Nat) : Prop := ∀ m, P m = true → 1 ≤ S.1 0 m → sl S m ≠ l ∧ sr S m ≠ l
def rm (P : Nat → Bool) (l : Nat) : Nat → Bool := fun x => P x && !decide (x = l)
theorem rm_in {P : Nat → Bool} {l x : Nat} : rm P l x = true ↔ P x = true ∧ x ≠ l := by
  unfold rm
  simp
theorem pA_in {S : sT} {P : Nat → Bool} {l : Nat} : l ∈ pA S P ↔ l ∈ sA S ∧ P l = true := by
  unfold pA
  rw [List.mem_filter]
theorem pE_in {S : sT} {P : Nat → Bool} {e : Nat × Nat} : e ∈ pE S P ↔ ∃ l, l < S.2.1 ∧ (S.1 0 l = 1 ∨ S.1 0 l = 3) ∧ P l = true ∧ (e = (sl S l, l) ∨ e = (sr S l, l)) := by
  unfold pE
  rw [List.mem_filter, sE_in]
  constructor
  · rintro ⟨⟨l, h1, h2, h3⟩, h4⟩
    refine ⟨l, h1, h2, ?_, h3⟩
    rcases h3 with rfl | rfl
    · exact h4
    · exact h4
  · rintro ⟨l, h1, h2, h4, h3⟩
    refine ⟨⟨l, h1, h2, h3⟩, ?_⟩
    rcases h3 with rfl | rfl
    · exact h4
    · exact h4
theorem pQ_in {S : sT} {P : Nat → Bool} {q : Nat × Nat × Nat} : q ∈ pQ S P ↔ ∃ k, k < S.2.1 ∧ S.1 0 k = 2 ∧ P k = true ∧ q = (k, sl S k, sr S k) := by
  unfold pQ
  rw [List.mem_filter, sQ_in]
  constructor
  · rintro ⟨⟨l, h1, h2, rfl⟩, h4⟩
    exact ⟨l, h1, h2, h4, rfl⟩
  · rintro ⟨l, h1, h2, h4, rfl⟩
    exact ⟨⟨l, h1, h2, rfl⟩, h4⟩
theorem pG_in {S : sT} {P : Nat → Bool} {e : Nat × Nat} : e ∈ pG S P ↔ ∃ l, l < S.2.1 ∧ (1 ≤ S.1 0 l ∧ S.1 0 l ≤ 3) ∧ P l = true ∧ (e = (sl S l, l) ∨ e = (sr S l, l)) := by
  unfold pG
  rw [List.mem_append, pE_in, bp_in]
  constructor
  · rintro (⟨l, h1, h2, h3, h4⟩ | ⟨q, hq, h⟩)
    · exact ⟨l, h1, by omega, h3, h4⟩
    · obtain ⟨k, h1, h2, h3, rfl⟩ := pQ_in.mp hq
      exact ⟨k, h1, by omega, h3, h⟩
  · rintro ⟨l, h1, h2, h3, h4⟩
    by_cases z : S.1 0 l = 2
    · exact Or.inr ⟨_, pQ_in.mpr ⟨l, h1, z, h3, rfl⟩, h4⟩
    · exact Or.inl ⟨l, h1, by omega, h3, h4⟩
theorem pQ_kn (S : sT) (P : Nat → Bool) : kn (pQ S P) := List.Pairwise.filter _ (sQ_kn S)
theorem pA_nd (S : sT) (P : Nat → Bool) : (pA S P).Nodup := List.Pairwise.filter _ (sA_nd S)
theorem ce_pin {S : sT} {P : Nat → Bool} {ch : Nat → Bool} {e : Nat × Nat} (h : e ∈ ce ch (pQ S P)) : ∃ k, k < S.2.1 ∧ S.1 0 k = 2 ∧ P k = true ∧ e = (if ch k then sr S k else sl S k, k) := by
  obtain ⟨q, hq, rfl⟩ := ce_in.mp h
  obtain ⟨k, h1, h2, h3, rfl⟩ := pQ_in.mp hq
  exact ⟨k, h1, h2, h3, rfl⟩
theorem ce_pat {S : sT} {P : Nat → Bool} {ch : Nat → Bool} {k : Nat} (h1 : k < S.2.1) (h2 : S.1 0 k = 2) (h3 : P k = true) : (if ch k then sr S k else sl S k, k) ∈ ce ch (pQ S P) := ce_in.mpr ⟨_, pQ_in.mpr ⟨k, h1, h2, h3, rfl⟩, rfl⟩
theorem net_np {T : fT} {S : sT} (hok : s_ok T S) {f : Int} (hV : s_V S 0 f) : np S (fun l => decide (l < S.2.1 ∧ 0 ≤ S.1 0 l)) := by
  have g := net_gd hok hV
  refine ⟨⟨fun l h => of_decide_eq_true h, fun l h hk => ?_⟩, ?_⟩
  · obtain ⟨⟨s1, -⟩, s2, -⟩ := s_src hok (of_decide_eq_true h).1 hk
    exact ⟨decide_eq_true (sA_in.mp s1), decide_eq_true (sA_in.mp s2)⟩
  · have a : pA S (fun l => decide (l < S.2.1 ∧ 0 ≤ S.1 0 l)) = sA S := List.filter_eq_self.mpr (fun l hl => decide_eq_true (sA_in.mp hl))
    have b : pE S (fun l => decide (l < S.2.1 ∧ 0 ≤ S.1 0 l)) = sE S := List.filter_eq_self.mpr (fun e he => by
      obtain ⟨l, h1, h2, h3⟩ := sE_in.mp he
      rcases h3 with rfl | rfl
      · exact decide_eq_true ⟨h1, show 0 ≤ S.1 0 l by omega⟩
      · exact decide_eq_true ⟨h1, show 0 ≤ S.1 0 l by omega⟩)
    have c : pQ S (fun l => decide (l < S.2.1 ∧ 0 ≤ S.1 0 l)) = sQ S := List.filter_eq_self.mpr (fun q hq => by
      obtain ⟨k, h1, h2, rfl⟩ := sQ_in.mp hq
      exact decide_eq_true ⟨h1, show 0 ≤ S.1 0 k by omega⟩)
    rw [a, b, c]
    exact g
theorem rm_up {S : sT} {P : Nat → Bool} (h : upc S P) {l : Nat} (hl : low S P l) : upc S (rm P l) := by
  refine ⟨fun x hx => h.1 x (rm_in.mp hx).1, fun x hx hk => ?_⟩
  obtain ⟨h1, h2⟩ := rm_in.mp hx
  obtain ⟨a, b⟩ := h.2 x h1 hk
  obtain ⟨c, d⟩ := hl x h1 hk
  exact ⟨rm_in.mpr ⟨a, c⟩, rm_in.mpr ⟨b, d⟩⟩
theorem len_fp {α : Type} (p : α → Bool) (l : List α) : (l.filter p).length + (l.filter (fun x => !p x)).length = l.length := by
  have := (List.filter_append_perm p l).length_eq
  rw [List.length_append] at this
  exact this
/-- the links that stand, but one -/
theorem pA_rm {S : sT} {P : Nat → Bool} {l : Nat} (hl : l ∈ pA S P) : (pA S (rm P l)).length + 1 = (pA S P).length := by
  have e : pA S (rm P l) = (pA S P).filter (fun x => !decide (x = l)) := by
    unfold pA
    rw [List.filter_filter]
    refine List.filter_congr (fun x _ => ?_)
    unfold rm
    rw [Bool.and_comm]
  rw [e]
  have h1 := len_fp (fun x => decide (x = l)) (pA S P)
  have h2 : ((pA S P).filter (fun x => decide (x = l))).length = 1 := by
    have nd := pA_nd S P
    generalize pA S P = A at hl nd
    induction A with
    | nil => cases hl
    | cons a t ih =>
      obtain ⟨n1, n2⟩ := List.nodup_cons.mp nd
      by_cases z : a = l
      · subst z
        rw [List.filter_cons_of_pos (by simp)]
        have : t.filter (fun x => decide (x = a)) = [] := List.filter_eq_nil_iff.mpr (fun x hx => by
          simp only [decide_eq_true_eq]
          exact fun y => n1 (y ▸ hx))
        rw [this]
        rfl
      · rw [List.filter_cons_of_neg (by simpa using z)]
        rcases List.mem_cons.mp hl with y | y
        · exact absurd y.symm z
        · exact ih y n2
  omega
/-- a lowest par may go -/
theorem np_par {S : sT} {P : Nat → Bool} (h : np S P) {k : Nat} (hk : P k = true) (h2 : S.1 0 k = 2) (hl : low S P k) : np S (rm P k) := by
  obtain ⟨hu, hg⟩ := h
  obtain ⟨k1, k2⟩ := hu.1 k hk
  refine ⟨rm_up hu hl, pA_nd _ _, pQ_kn _ _, ?_, fun q hq => ?_, fun ch x hx y hy => ?_⟩
  · have a := pA_rm (S := S) (P := P) (l := k) (pA_in.mpr ⟨sA_in.mpr ⟨k1, k2⟩, hk⟩)
    have b : pE S (rm P k) = pE S P := by
      unfold pE
      refine List.filter_congr (fun e he => ?_)
      obtain ⟨l, l1, l2, l3⟩ := sE_in.mp he
      have : e.2 ≠ k := by
        rcases l3 with rfl | rfl
        · exact fun (z : l = k) => by subst z; omega
        · exact fun (z : l = k) => by subst z; omega
      unfold rm
      simp [this]
    have c : pQ S (rm P k) = ex (pQ S P) k := by
      unfold pQ ex
      rw [List.filter_filter]
      refine List.filter_congr (fun q _ => ?_)
      unfold rm
      rw [Bool.and_comm]
      simp
    have d := ex_len (pQ_kn S P) (q := (k, sl S k, sr S k)) (pQ_in.mpr ⟨k, k1, h2, hk, rfl⟩)
    have e := hg.2.2.1
    rw [b, c]
    have d : (ex (pQ S P) k).length + 1 = (pQ S P).length := d
    omega
  · obtain ⟨m, m1, m2, m3, rfl⟩ := pQ_in.mp hq
    obtain ⟨m3, m4⟩ := rm_in.mp m3
    obtain ⟨a1, a2⟩ := hu.2 m m3 (by omega)
    obtain ⟨b1, b2⟩ := hl m m3 (by omega)
    have inn : ∀ z, P z = true → z ≠ k → z ∈ pA S (rm P k) := fun z hz hzk => pA_in.mpr ⟨sA_in.mpr (hu.1 z hz), rm_in.mpr ⟨hz, hzk⟩⟩
    exact ⟨inn m m3 m4, inn _ a1 b1, inn _ a2 b2⟩
  · obtain ⟨x1, x2⟩ := pA_in.mp hx
    obtain ⟨y1, y2⟩ := pA_in.mp hy
    obtain ⟨x2, x3⟩ := rm_in.mp x2
    obtain ⟨y2, y3⟩ := rm_in.mp y2
    have c := hg.2.2.2.2 ch x (pA_in.mpr ⟨x1, x2⟩) y (pA_in.mpr ⟨y1, y2⟩)
    have cm := cn_map (fun z => if z = k then (if ch k then sr S k else sl S k) else z) (F := pE S (rm P k) ++ ce ch (pQ S (rm P k))) (fun e he => ?_) c
    · rw [if_neg x3, if_neg y3] at cm
      exact cm
    · rcases List.mem_append.mp he with he | he
      · obtain ⟨l, l1, l2, l3, l4⟩ := pE_in.mp he
        obtain ⟨b1, b2⟩ := hl l l3 (by omega)
        have lk : l ≠ k := fun z => by subst z; omega
        have hin : e ∈ pE S (rm P k) := pE_in.mpr ⟨l, l1, l2, rm_in.mpr ⟨l3, lk⟩, l4⟩
        rcases l4 with rfl | rfl
        · show cn _ (if sl S l = k then _ else sl S l) (if l = k then _ else l)
          rw [if_neg b1, if_neg lk]
          exact cn_in (q := (sl S l, l)) (List.mem_append_left _ hin)
        · show cn _ (if sr S l = k then _ else sr S l) (if l = k then _ else l)
          rw [if_neg b2, if_neg lk]
          exact cn_in (q := (sr S l, l)) (List.mem_append_left _ hin)
      · obtain ⟨m, m1, m2, m3, rfl⟩ := ce_pin he
        obtain ⟨b1, b2⟩ := hl m m3 (by omega)
        have ns : (if ch m then sr S m else sl S m) ≠ k := by
          split
          · exact b2
          · exact b1
        show cn _ (if (if ch m then sr S m else sl S m) = k then _ else (if ch m then sr S m else sl S m)) (if m = k then _ else m)
        rw [if_neg ns]
        by_cases z : m = k
        · subst z
          rw [if_pos rfl]
          exact cn_rf _ _
        · rw [if_neg z]
          exact cn_in (q := (if ch m then sr S m else sl S m, m)) (List.mem_append_right _ (ce_pat m1 m2 (rm_in.mpr ⟨m3, z⟩)))
