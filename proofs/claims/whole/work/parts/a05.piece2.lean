/-! Pieces: a link that parts them; there is one. -/
theorem cs_B_fil {kd lf rt fr : Nat → Int} {t : Nat} (hk : kd t = 1 ∨ kd t = 3) : ∀ n, t < n → (cs_B kd lf rt fr n).filter (fun e => decide (e.2 = t)) = [((fr (lf t).toNat).toNat, t), ((fr (rt t).toNat).toNat, t)] := by
  have none : ∀ n, n ≤ t → (cs_B kd lf rt fr n).filter (fun e => decide (e.2 = t)) = [] := by
    intro n hn
    refine List.filter_eq_nil_iff.mpr (fun e he => ?_)
    obtain ⟨l, l1, -, l3⟩ := cs_B_in.mp he
    have : e.2 = l := by rcases l3 with rfl | rfl <;> rfl
    simp only [decide_eq_true_eq]
    omega
  intro n
  induction n with
  | zero => intro h; omega
  | succ n ih =>
    intro h
    rw [cs_B_s, List.filter_append]
    by_cases z : t = n
    · subst z
      rw [none t (Nat.le_refl _), if_pos hk, List.filter_cons_of_pos (by simp), List.filter_cons_of_pos (by simp)]
      rfl
    · rw [ih (by omega)]
      have : (if kd n = 1 ∨ kd n = 3 then [((fr (lf n).toNat).toNat, n), ((fr (rt n).toNat).toNat, n)] else []).filter (fun e => decide (e.2 = t)) = [] := by
        refine List.filter_eq_nil_iff.mpr (fun e he => ?_)
        split at he
        · have : e.2 = n := by
            rcases List.mem_cons.mp he with rfl | he
            · rfl
            · rw [List.mem_singleton.mp he]
          simp only [decide_eq_true_eq]
          omega
        · cases he
      rw [this, List.append_nil]
theorem pE_fil {S : sT} {P : Nat → Bool} {t : Nat} (ht : t < S.2.1) (hP : P t = true) (hk : S.1 0 t = 1 ∨ S.1 0 t = 3) : (pE S P).filter (fun e => decide (e.2 = t)) = [(sl S t, t), (sr S t, t)] := by
  have e : (pE S P).filter (fun e => decide (e.2 = t)) = (sE S).filter (fun e => decide (e.2 = t)) := by
    unfold pE
    rw [List.filter_filter]
    refine List.filter_congr (fun e _ => ?_)
    by_cases z : e.2 = t
    · rw [z, hP]
      simp
    · simp [z]
  rw [e]
  exact cs_B_fil hk _ ht
/-- a part of a piece that hangs together by one link only -/
theorem np_sub {S : sT} {P M : Nat → Bool} (h : np S P) {x : Nat} (hM : ∀ l, M l = true → P l = true) (hu : ∀ l, M l = true → 1 ≤ S.1 0 l → M (sl S l) = true ∧ M (sr S l) = true)
    (ho : ∀ l, P l = true → ¬ M l = true → 1 ≤ S.1 0 l → (M (sl S l) = true → sl S l = x) ∧ (M (sr S l) = true → sr S l = x)) : upc S M ∧ ∀ ch, ∀ u ∈ pA S M, ∀ v ∈ pA S M, cn (pE S M ++ ce ch (pQ S M)) u v := by
  obtain ⟨hup, hg⟩ := h
  refine ⟨⟨fun l hl => hup.1 l (hM l hl), hu⟩, fun ch u hu' v hv' => ?_⟩
  obtain ⟨u1, u2⟩ := pA_in.mp hu'
  obtain ⟨v1, v2⟩ := pA_in.mp hv'
  have c := hg.2.2.2.2 ch u (pA_in.mpr ⟨u1, hM u u2⟩) v (pA_in.mpr ⟨v1, hM v v2⟩)
  have cm := cn_map (fun z => if M z = true then z else x) (F := pE S M ++ ce ch (pQ S M)) (fun e he => ?_) c
  · rw [if_pos u2, if_pos v2] at cm
    exact cm
  · have out : ∀ {s l : Nat}, ¬ M l = true → (M s = true → s = x) → cn (pE S M ++ ce ch (pQ S M)) (if M s = true then s else x) (if M l = true then l else x) := by
      intro s l h1 h2
      rw [if_neg h1]
      by_cases z : M s = true
      · rw [if_pos z, h2 z]
        exact cn_rf _ _
      · rw [if_neg z]
        exact cn_rf _ _
    rcases List.mem_append.mp he with he | he
    · obtain ⟨l, l1, l2, l3, l4⟩ := pE_in.mp he
      by_cases z : M l = true
      · obtain ⟨a1, a2⟩ := hu l z (by omega)
        have hin : e ∈ pE S M := pE_in.mpr ⟨l, l1, l2, z, l4⟩
        rcases l4 with rfl | rfl
        · show cn _ (if M (sl S l) = true then sl S l else x) (if M l = true then l else x)
          rw [if_pos a1, if_pos z]
          exact cn_in (q := (sl S l, l)) (List.mem_append_left _ hin)
        · show cn _ (if M (sr S l) = true then sr S l else x) (if M l = true then l else x)
          rw [if_pos a2, if_pos z]
          exact cn_in (q := (sr S l, l)) (List.mem_append_left _ hin)
      · obtain ⟨o1, o2⟩ := ho l l3 z (by omega)
        rcases l4 with rfl | rfl
        · exact out z o1
        · exact out z o2
    · obtain ⟨k, k1, k2, k3, rfl⟩ := ce_pin he
      by_cases z : M k = true
      · obtain ⟨a1, a2⟩ := hu k z (by omega)
        have hs : M (if ch k then sr S k else sl S k) = true := by
          split
          · exact a2
          · exact a1
        show cn _ (if M (if ch k then sr S k else sl S k) = true then (if ch k then sr S k else sl S k) else x) (if M k = true then k else x)
        rw [if_pos hs, if_pos z]
        exact cn_in (q := (if ch k then sr S k else sl S k, k)) (List.mem_append_right _ (ce_pat k1 k2 z))
      · obtain ⟨o1, o2⟩ := ho k k3 z (by omega)
        refine out z ?_
        split
        · exact o2
        · exact o1
theorem np_split {S : sT} (h3k : ∀ l, l < S.2.1 → S.1 0 l ≤ 3) {P L : Nat → Bool} (h : np S P) {t : Nat} (ht : P t = true) (hk : S.1 0 t = 1 ∨ S.1 0 t = 3) (hl : low S P t) (hL : ∀ v, L v = true ↔ (rm P t v = true ∧ cn (pG S (rm P t)) (sl S t) v)) (hs : ¬ L (sr S t) = true) : np S L ∧ np S (fun v => rm P t v && !L v) := by
  obtain ⟨hup, hg⟩ := id h
  have hW := rm_up hup hl
  obtain ⟨t1, t2⟩ := hup.1 t ht
  have hR : ∀ v, (rm P t v && !L v) = true ↔ (rm P t v = true ∧ ¬ L v = true) := fun v => by simp
  obtain ⟨q1, q2⟩ := hup.2 t ht (by omega)
  obtain ⟨q3, q4⟩ := hl t ht (by omega)
  have xL : L (sl S t) = true := (hL _).mpr ⟨rm_in.mpr ⟨q1, q3⟩, cn_rf _ _⟩
  have yR : (rm P t (sr S t) && !L (sr S t)) = true := (hR _).mpr ⟨rm_in.mpr ⟨q2, q4⟩, hs⟩
  -- links of the rest and their sources are on one side
  have side : ∀ l, rm P t l = true → 1 ≤ S.1 0 l → ((L l = true ↔ L (sl S l) = true) ∧ (L l = true ↔ L (sr S l) = true)) := by
    intro l hl' h1
    obtain ⟨l1, l2⟩ := hW.1 l hl'
    have h3 := h3k l l1
    obtain ⟨a, b⟩ := hW.2 l hl' h1
    have e1 : cn (pG S (rm P t)) (sl S l) l := cn_in (q := (sl S l, l)) (pG_in.mpr ⟨l, l1, ⟨h1, h3⟩, hl', Or.inl rfl⟩)
    have e2 : cn (pG S (rm P t)) (sr S l) l := cn_in (q := (sr S l, l)) (pG_in.mpr ⟨l, l1, ⟨h1, h3⟩, hl', Or.inr rfl⟩)
    refine ⟨⟨fun z => (hL _).mpr ⟨a, cn_tr ((hL _).mp z).2 (cn_sy e1)⟩, fun z => (hL _).mpr ⟨hl', cn_tr ((hL _).mp z).2 e1⟩⟩, ⟨fun z => (hL _).mpr ⟨b, cn_tr ((hL _).mp z).2 (cn_sy e2)⟩, fun z => (hL _).mpr ⟨hl', cn_tr ((hL _).mp z).2 e2⟩⟩⟩
  have LP : ∀ l, L l = true → P l = true := fun l z => (rm_in.mp ((hL l).mp z).1).1
  have RP : ∀ l, (rm P t l && !L l) = true → P l = true := fun l z => (rm_in.mp ((hR l).mp z).1).1
  obtain ⟨uL, cL⟩ := np_sub (M := L) (x := sl S t) h LP (fun l z h1 => ⟨((side l ((hL l).mp z).1 h1).1).mp z, ((side l ((hL l).mp z).1 h1).2).mp z⟩) (fun l z1 z2 h1 => by
    by_cases e : l = t
    · subst e
      exact ⟨fun _ => rfl, fun z => absurd z hs⟩
    · have w := rm_in.mpr ⟨z1, e⟩
      exact ⟨fun z => absurd (((side l w h1).1).mpr z) z2, fun z => absurd (((side l w h1).2).mpr z) z2⟩)
  obtain ⟨uR, cR⟩ := np_sub (M := fun v => rm P t v && !L v) (x := sr S t) h RP (fun l z h1 => by
    obtain ⟨z1, z2⟩ := (hR l).mp z
    obtain ⟨a, b⟩ := hW.2 l z1 h1
    exact ⟨(hR _).mpr ⟨a, fun y => z2 (((side l z1 h1).1).mpr y)⟩, (hR _).mpr ⟨b, fun y => z2 (((side l z1 h1).2).mpr y)⟩⟩) (fun l z1 z2 h1 => by
    by_cases e : l = t
    · subst e
      exact ⟨fun z => absurd xL ((hR _).mp z).2, fun _ => rfl⟩
    · have w := rm_in.mpr ⟨z1, e⟩
      have lL : L l = true := Classical.byContradiction (fun y => z2 ((hR l).mpr ⟨w, y⟩))
      exact ⟨fun z => absurd (((side l w h1).1).mp lL) ((hR _).mp z).2, fun z => absurd (((side l w h1).2).mp lL) ((hR _).mp z).2⟩)
  -- counting
  have tA : t ∈ pA S P := pA_in.mpr ⟨sA_in.mpr ⟨t1, t2⟩, ht⟩
  have parts : ∀ {α : Type} (l : List α) (f : α → Nat), (l.filter (fun a => rm P t (f a))).length = (l.filter (fun a => L (f a))).length + (l.filter (fun a => rm P t (f a) && !L (f a))).length := by
    intro α l f
    have a := len_fp (fun a => L (f a)) (l.filter (fun a => rm P t (f a)))
    rw [List.filter_filter, List.filter_filter] at a
    have e1 : l.filter (fun a => L (f a) && rm P t (f a)) = l.filter (fun a => L (f a)) := by
      refine List.filter_congr (fun x _ => ?_)
      cases hx : L (f x) with
      | false => rfl
      | true => rw [((hL _).mp hx).1]; rfl
    have e2 : l.filter (fun a => (!L (f a)) && rm P t (f a)) = l.filter (fun a => rm P t (f a) && !L (f a)) := by
      refine List.filter_congr (fun x _ => ?_)
      rw [Bool.and_comm]
    rw [e1, e2] at a
    exact a.symm
  have lA := pA_rm tA
  have lA2 : (pA S (rm P t)).length = (pA S L).length + (pA S (fun v => rm P t v && !L v)).length := parts (sA S) (fun a => a)
  have lE2 : (pE S (rm P t)).length = (pE S L).length + (pE S (fun v => rm P t v && !L v)).length := parts (sE S) (fun e => e.2)
  have lQ2 : (pQ S (rm P t)).length = (pQ S L).length + (pQ S (fun v => rm P t v && !L v)).length := parts (sQ S) (fun q => q.1)
  have lE : (pE S P).length = (pE S (rm P t)).length + 2 := by
    have a := len_fp (fun e : Nat × Nat => decide (e.2 = t)) (pE S P)
    rw [pE_fil t1 ht hk] at a
    have e : (pE S P).filter (fun e => !decide (e.2 = t)) = pE S (rm P t) := by
      unfold pE
      rw [List.filter_filter]
      refine List.filter_congr (fun e _ => ?_)
      unfold rm
      rw [Bool.and_comm]
    rw [e] at a
    simp only [List.length_cons, List.length_nil] at a
    omega
  have lQ : pQ S (rm P t) = pQ S P := by
    unfold pQ
    refine List.filter_congr (fun q hq => ?_)
    obtain ⟨k, k1, k2, rfl⟩ := sQ_in.mp hq
    have : k ≠ t := fun z => by subst z; omega
    unfold rm
    simp [this]
  rw [lQ] at lQ2
  have l0 := hg.2.2.1
  have n1 := cn_len (pA_nd S L) (cL (fun _ => true))
  have n2 := cn_len (pA_nd S (fun v => rm P t v && !L v)) (cR (fun _ => true))
  rw [List.length_append, ce_len] at n1 n2
  have inn : ∀ {M : Nat → Bool}, upc S M → ∀ q ∈ pQ S M, q.1 ∈ pA S M ∧ q.2.1 ∈ pA S M ∧ q.2.2 ∈ pA S M := by
    intro M hM q hq
    obtain ⟨k, k1, k2, k3, rfl⟩ := pQ_in.mp hq
    obtain ⟨a, b⟩ := hM.2 k k3 (by omega)
    exact ⟨pA_in.mpr ⟨sA_in.mpr (hM.1 k k3), k3⟩, pA_in.mpr ⟨sA_in.mpr (hM.1 _ a), a⟩, pA_in.mpr ⟨sA_in.mpr (hM.1 _ b), b⟩⟩
  exact ⟨⟨uL, pA_nd _ _, pQ_kn _ _, by omega, inn uL, cL⟩, ⟨uR, pA_nd _ _, pQ_kn _ _, by omega, inn uR, cR⟩⟩
/-- a piece without a lowest par and of more than one link has a link that parts it -/
theorem np_ex {S : sT} (h3k : ∀ l, l < S.2.1 → S.1 0 l ≤ 3) {P : Nat → Bool} (h : np S P) (hno : ∀ k, P k = true → S.1 0 k = 2 → ¬ low S P k) (h2 : 2 ≤ (pA S P).length) : ∃ t, P t = true ∧ (S.1 0 t = 1 ∨ S.1 0 t = 3) ∧ low S P t ∧ ¬ cn (pG S (rm P t)) (sl S t) (sr S t) := by
  obtain ⟨hup, hg⟩ := id h
  have src : ∀ v, ¬ low S P v → (∃ e ∈ pE S P, e.1 = v) ∨ ∃ q ∈ pQ S P, q.2.1 = v ∨ q.2.2 = v := by
    intro v hv
    obtain ⟨m, m1, m2, m3⟩ : ∃ m, P m = true ∧ 1 ≤ S.1 0 m ∧ (sl S m = v ∨ sr S m = v) := by
      refine Classical.byContradiction (fun z => hv (fun m m1 m2 => ⟨fun y => z ⟨m, m1, m2, Or.inl y⟩, fun y => z ⟨m, m1, m2, Or.inr y⟩⟩))
    obtain ⟨m4, -⟩ := hup.1 m m1
    have m5 := h3k m m4
    by_cases k : S.1 0 m = 2
    · exact Or.inr ⟨_, pQ_in.mpr ⟨m, m4, k, m1, rfl⟩, m3⟩
    · rcases m3 with rfl | rfl
      · exact Or.inl ⟨_, pE_in.mpr ⟨m, m4, by omega, m1, Or.inl rfl⟩, rfl⟩
      · exact Or.inl ⟨_, pE_in.mpr ⟨m, m4, by omega, m1, Or.inr rfl⟩, rfl⟩
  have iso : ∀ v, v ∈ pA S P → S.1 0 v = 0 → ¬ low S P v := by
    intro v hv h0 hlow
    have all : ∀ w ∈ pA S P, w = v := by
      intro w hw
      have c := hg.2.2.2.2 (fun _ => true) v hv w hw
      have : v = v ↔ w = v := cn_least (P := fun a b => (a = v ↔ b = v)) (fun _ => Iff.rfl) (fun _ _ h => h.symm) (fun _ _ _ h g => h.trans g) (fun e he => by
        have no : ∀ {s l : Nat}, P l = true → 1 ≤ S.1 0 l → (s = sl S l ∨ s = sr S l) → (s = v ↔ l = v) := by
          intro s l h1 h2 h3
          obtain ⟨a, b⟩ := hlow l h1 h2
          refine ⟨fun z => ?_, fun z => ?_⟩
          · rcases h3 with rfl | rfl
            · exact absurd z a
            · exact absurd z b
          · subst z; omega
        rcases List.mem_append.mp he with he | he
        · obtain ⟨l, l1, l2, l3, l4⟩ := pE_in.mp he
          rcases l4 with rfl | rfl
          · exact no (l := l) l3 (by omega) (Or.inl rfl)
          · exact no (l := l) l3 (by omega) (Or.inr rfl)
        · obtain ⟨k, k1, k2, k3, rfl⟩ := ce_pin he
          refine no (l := k) k3 (by omega) ?_
          split
          · exact Or.inr rfl
          · exact Or.inl rfl) c
      exact this.mp rfl
    have nd := pA_nd S P
    generalize pA S P = A at *
    match A, h2, all, nd with
    | a :: b :: t, _, all, nd =>
      have e1 := all a List.mem_cons_self
      have e2 := all b (List.mem_cons_of_mem _ List.mem_cons_self)
      exact (List.nodup_cons.mp nd).1 (by rw [e1, ← e2]; exact List.mem_cons_self)
    | [], h2, _, _ => simp at h2
    | [_], h2, _, _ => simp at h2
  have inA : ∀ {l}, P l = true → l ∈ pA S P := fun hl => pA_in.mpr ⟨sA_in.mpr (hup.1 _ hl), hl⟩
  obtain ⟨t, ⟨ht, hk, hlow⟩, x, y, Et, hp, hns⟩ := gd_split (pQ S P).length (pA S P) [] (pE S P) (pQ S P) (fun t => P t = true ∧ (S.1 0 t = 1 ∨ S.1 0 t = 3) ∧ low S P t) rfl hg (fun t ht => by
    obtain ⟨a, b, c⟩ := ht
    obtain ⟨s1, s2⟩ := hup.2 t a (by omega)
    refine ⟨sl S t, sr S t, (pE S P).filter (fun e => !decide (e.2 = t)), ?_, fun e he => by simpa using (List.mem_filter.mp he).2, inA s1, inA s2, inA a⟩
    have q := (List.filter_append_perm (fun e : Nat × Nat => decide (e.2 = t)) (pE S P)).symm
    rw [pE_fil (hup.1 t a).1 a b] at q
    exact q) (fun v hv => by
    refine ⟨v, cn_rf _ _, ?_⟩
    obtain ⟨v1, v2⟩ := pA_in.mp hv
    obtain ⟨v3, v4⟩ := sA_in.mp v1
    have v5 := h3k v v3
    by_cases l : low S P v
    · by_cases k : S.1 0 v = 1 ∨ S.1 0 v = 3
      · exact Or.inl ⟨v2, k, l⟩
      · by_cases k2 : S.1 0 v = 2
        · exact absurd l (hno v v2 k2)
        · exact absurd l (iso v hv (by omega))
    · exact Or.inr (src v l))
  refine ⟨t, ht, hk, hlow, fun c => hns ?_⟩
  have t1 := (hup.1 t ht).1
  have hf := hp.filter (fun e => decide (e.2 = t))
  rw [pE_fil t1 ht hk, List.filter_cons_of_pos (by simp), List.filter_cons_of_pos (by simp)] at hf
  have e0 : Et.filter (fun e => decide (e.2 = t)) = [] := by
    have := hf.length_eq
    simp only [List.length_cons, List.length_nil] at this
    exact List.eq_nil_of_length_eq_zero (by omega)
  rw [e0] at hf
  have c2 : cn ([] ++ Et ++ bp (pQ S P)) (sl S t) (sr S t) := cn_sub (fun e he => by
    rcases List.mem_append.mp he with he | he
    · obtain ⟨l, l1, l2, l3, l4⟩ := pE_in.mp he
      obtain ⟨l3, l5⟩ := rm_in.mp l3
      have hin : e ∈ pE S P := pE_in.mpr ⟨l, l1, l2, l3, l4⟩
      have e2 : e.2 ≠ t := by rcases l4 with rfl | rfl <;> exact l5
      refine List.mem_append_left _ (List.mem_append_right _ ?_)
      rcases List.mem_cons.mp (hp.mem_iff.mp hin) with rfl | hin
      · exact absurd rfl e2
      · rcases List.mem_cons.mp hin with rfl | hin
        · exact absurd rfl e2
        · exact hin
    · refine List.mem_append_right _ ?_
      obtain ⟨q, hq, h⟩ := bp_in.mp he
      obtain ⟨k, k1, k2, k3, rfl⟩ := pQ_in.mp hq
      exact bp_in.mpr ⟨_, pQ_in.mpr ⟨k, k1, k2, (rm_in.mp k3).1, rfl⟩, h⟩) c
  have m1 : (sl S t, t) ∈ [(x, t), (y, t)] := hf.mem_iff.mp List.mem_cons_self
  have m2 : (sr S t, t) ∈ [(x, t), (y, t)] := hf.mem_iff.mp (List.mem_cons_of_mem _ List.mem_cons_self)
  have m3 : (x, t) ∈ [(sl S t, t), (sr S t, t)] := hf.mem_iff.mpr List.mem_cons_self
  have m4 : (y, t) ∈ [(sl S t, t), (sr S t, t)] := hf.mem_iff.mpr (List.mem_cons_of_mem _ List.mem_cons_self)
  simp only [List.mem_cons, List.not_mem_nil, or_false, Prod.mk.injEq, and_true] at m1 m2 m3 m4
  have : (x = sl S t ∧ y = sr S t) ∨ (x = sr S t ∧ y = sl S t) := by omega
  rcases this with ⟨e1, e2⟩ | ⟨e1, e2⟩
  · rw [e1, e2]; exact c2
  · rw [e1, e2]; exact cn_sy c2
/-- a piece of one link is an axiom -/
theorem np_one {S : sT} (h3k : ∀ l, l < S.2.1 → S.1 0 l ≤ 3) {P : Nat → Bool} (h : np S P) (h1 : (pA S P).length < 2) : ∃ a, P a = true ∧ S.1 0 a = 0 ∧ ∀ l, P l = true → l = a := by
  obtain ⟨hup, hg⟩ := h
  have l0 := hg.2.2.1
  have inA : ∀ {l}, P l = true → l ∈ pA S P := fun hl => pA_in.mpr ⟨sA_in.mpr (hup.1 _ hl), hl⟩
  have hA : (pA S P).length = 1 := by omega
  have hE : pE S P = [] := List.eq_nil_of_length_eq_zero (by omega)
  have hQ : pQ S P = [] := List.eq_nil_of_length_eq_zero (by omega)
  obtain ⟨a, ha⟩ := List.length_eq_one_iff.mp hA
  have ham : a ∈ pA S P := by rw [ha]; exact List.mem_cons_self
  obtain ⟨a1, a2⟩ := pA_in.mp ham
  obtain ⟨a3, a4⟩ := sA_in.mp a1
  have a5 := h3k a a3
  refine ⟨a, a2, ?_, fun l hl => ?_⟩
  · refine Classical.byContradiction (fun z => ?_)
    by_cases k : S.1 0 a = 2
    · have : (a, sl S a, sr S a) ∈ pQ S P := pQ_in.mpr ⟨a, a3, k, a2, rfl⟩
      rw [hQ] at this
      cases this
    · have : (sl S a, a) ∈ pE S P := pE_in.mpr ⟨a, a3, by omega, a2, Or.inl rfl⟩
      rw [hE] at this
      cases this
  · have := inA hl
    rw [ha] at this
    exact List.mem_singleton.mp this
