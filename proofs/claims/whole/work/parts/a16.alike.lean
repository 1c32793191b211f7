/-! Maps of one net onto another: what they are; the class's way to find one. -/
/-- a link that stands -/
def lal (S : sT) (l : Int) : Prop := 0 ≤ l ∧ l < (S.2.1 : Int) ∧ 0 ≤ S.1 0 l.toNat
def eal (S : sT) (e : Nat) : Prop := e < S.2.2.1 ∧ 0 ≤ S.1 4 e
theorem eal_i {S : sT} {e : Nat} (h : eal S e) : s_al S (e : Int) := ⟨by omega, by have := h.1; omega, h.2⟩
theorem eal_n {S : sT} {e : Int} (h : s_al S e) : eal S e.toNat ∧ ((e.toNat : Nat) : Int) = e := ⟨⟨by have := h.1; have := h.2.1; omega, h.2.2⟩, by have := h.1; omega⟩
def gm (a b : sT) (φ ψ : Nat → Nat) : Prop :=
  (∀ e, eal a e → s_al b (φ e : Int) ∧ b.1 4 (φ e) = a.1 4 e ∧ b.1 7 (φ e) = a.1 7 e ∧ b.1 5 (φ e) = (ψ (a.1 5 e).toNat : Int) ∧ (a.1 6 e = -1 → b.1 6 (φ e) = -1) ∧ ∀ l : Nat, a.1 6 e = (l : Int) → b.1 6 (φ e) = (ψ l : Int)) ∧
  (∀ l : Nat, lal a (l : Int) → lal b (ψ l : Int) ∧ b.1 0 (ψ l) = a.1 0 l ∧
    (a.1 0 l = 0 → ((φ (a.1 1 l).toNat : Int) = b.1 1 (ψ l) ∧ (φ (a.1 2 l).toNat : Int) = b.1 2 (ψ l)) ∨ ((φ (a.1 1 l).toNat : Int) = b.1 2 (ψ l) ∧ (φ (a.1 2 l).toNat : Int) = b.1 1 (ψ l))) ∧
    (1 ≤ a.1 0 l → (φ (a.1 1 l).toNat : Int) = b.1 1 (ψ l) ∧ (φ (a.1 2 l).toNat : Int) = b.1 2 (ψ l)) ∧
    (a.1 0 l = 1 ∨ a.1 0 l = 2 → (φ (a.1 3 l).toNat : Int) = b.1 3 (ψ l))) ∧
  (φ (a.1 8 0).toNat : Int) = b.1 8 0
/-- ends of edges, edges of links -/
theorem e_src {T : fT} {S : sT} (h : s_ok T S) {e : Nat} (he : eal S e) : lal S (S.1 5 e) ∧ S.1 5 e = ((S.1 5 e).toNat : Int) ∧ (S.1 0 (S.1 5 e).toNat = 0 → S.1 1 (S.1 5 e).toNat = (e : Int) ∨ S.1 2 (S.1 5 e).toNat = (e : Int)) ∧ (1 ≤ S.1 0 (S.1 5 e).toNat → (S.1 0 (S.1 5 e).toNat = 1 ∨ S.1 0 (S.1 5 e).toNat = 2) ∧ S.1 3 (S.1 5 e).toNat = (e : Int)) := by
  have w := h.2.2.1 e he.1
  have w4 := w.2.2.2.1
  obtain ⟨w1, w2, w3, -⟩ := w.2.2.2.2 he.2
  exact ⟨⟨w4.1, w4.2, by omega⟩, by omega, w2, fun z => ⟨by omega, w3 z⟩⟩
theorem e_use {T : fT} {S : sT} (h : s_ok T S) {e : Nat} (he : eal S e) : S.1 6 e = -1 ∨ (lal S (S.1 6 e) ∧ 1 ≤ S.1 0 (S.1 6 e).toNat ∧ S.1 6 e = ((S.1 6 e).toNat : Int) ∧ (S.1 1 (S.1 6 e).toNat = (e : Int) ∨ S.1 2 (S.1 6 e).toNat = (e : Int))) := by
  have w := h.2.2.1 e he.1
  have w6 := w.2.1
  obtain ⟨-, -, -, w4, -⟩ := w.2.2.2.2 he.2
  by_cases z : S.1 6 e = -1
  · exact Or.inl z
  · have w4 := w4 (by omega)
    exact Or.inr ⟨⟨by omega, w6.2, by omega⟩, w4.1, by omega, w4.2⟩
theorem l_edg {T : fT} {S : sT} (h : s_ok T S) {l : Nat} (hl : lal S (l : Int)) : s_al S (S.1 1 l) ∧ s_al S (S.1 2 l) ∧ S.1 1 l ≠ S.1 2 l ∧ (S.1 3 l = -1 ∨ (s_al S (S.1 3 l) ∧ (S.1 0 l = 1 ∨ S.1 0 l = 2))) ∧ ((S.1 0 l = 1 ∨ S.1 0 l = 2) → s_al S (S.1 3 l)) := by
  have hl1 := hl.2.1
  have hl2 : 0 ≤ S.1 0 l := hl.2.2
  obtain ⟨w0, w1, w2, w3, w4⟩ := h.2.1 l (by omega)
  by_cases k0 : S.1 0 l = 0
  · obtain ⟨a1, a2, a3, -, -, a6, -⟩ := w1 k0
    exact ⟨a1, a2, a3, Or.inl a6, fun z => by omega⟩
  · obtain ⟨a1, a2, a3, -⟩ := w2 (by omega)
    by_cases k3 : S.1 0 l = 3
    · exact ⟨a1, a2, a3, Or.inl (w4 k3).1, fun z => by omega⟩
    · have k12 : S.1 0 l = 1 ∨ S.1 0 l = 2 := by omega
      exact ⟨a1, a2, a3, Or.inr ⟨(w3 k12).1, k12⟩, fun _ => (w3 k12).1⟩
abbrev lkT := (Nat → Int) × (Nat → Int) × List Nat
def le (a b : sT) (s : lkT) (e f : Int) : Option lkT := if ¬ s.1 e.toNat = -1 then (if s.1 e.toNat = f then some s else none) else if a.1 4 e.toNat = b.1 4 f.toNat ∧ a.1 7 e.toNat = b.1 7 f.toNat then some (sn_up s.1 e.toNat f, s.2.1, s.2.2 ++ [e.toNat]) else none
abbrev cr (a b : sT) (l m : Int) : Prop := a.1 0 l.toNat = 0 ∧ ¬ a.1 4 (a.1 1 l.toNat).toNat = b.1 4 (b.1 1 m.toNat).toNat
def ll2 (a b : sT) (s : lkT) (l m : Int) : Option lkT := (le a b s (a.1 1 l.toNat) (if cr a b l m then b.1 2 m.toNat else b.1 1 m.toNat)).bind (fun s1 => (le a b s1 (a.1 2 l.toNat) (if cr a b l m then b.1 1 m.toNat else b.1 2 m.toNat)).bind (fun s2 => if a.1 3 l.toNat = -1 then some s2 else le a b s2 (a.1 3 l.toNat) (b.1 3 m.toNat)))
def ll (a b : sT) (s : lkT) (l m : Int) : Option lkT := if l = -1 ∨ m = -1 then (if l = m then some s else none) else if ¬ s.2.1 l.toNat = -1 then (if s.2.1 l.toNat = m then some s else none) else if a.1 0 l.toNat = b.1 0 m.toNat then ll2 a b (s.1, sn_up s.2.1 l.toNat m, s.2.2) l m else none
def lt (a b : sT) (s : lkT) (e : Nat) : Option lkT := (ll a b s (a.1 5 e) (b.1 5 (s.1 e).toNat)).bind (fun s1 => ll a b s1 (a.1 6 e) (b.1 6 (s.1 e).toNat))
def lh (a b : sT) : Nat → lkT → Nat → Bool
  | 0, _, _ => true
  | n + 1, s, i => match s.2.2[i]? with
    | none => true
    | some e => match lt a b s e with
      | none => false
      | some s' => lh a b n s' (i + 1)
/-- what has been laid so far is sound -/
def lW (a b : sT) (s : lkT) : Prop := s.2.2.Nodup ∧ (∀ e, e ∈ s.2.2 ↔ ¬ s.1 e = -1) ∧ ∀ e ∈ s.2.2, eal a e ∧ s_al b (s.1 e) ∧ a.1 4 e = b.1 4 (s.1 e).toNat ∧ a.1 7 e = b.1 7 (s.1 e).toNat
def lx (s s' : lkT) : Prop := (∀ e, ¬ s.1 e = -1 → s'.1 e = s.1 e) ∧ (∀ l, ¬ s.2.1 l = -1 → s'.2.1 l = s.2.1 l) ∧ ∃ t, s'.2.2 = s.2.2 ++ t
theorem lx_rf (s : lkT) : lx s s := ⟨fun _ _ => rfl, fun _ _ => rfl, [], (List.append_nil _).symm⟩
theorem lx_t {s s' s'' : lkT} (h : lx s s') (g : lx s' s'') : lx s s'' := by
  obtain ⟨t, ht⟩ := h.2.2
  obtain ⟨u, hu⟩ := g.2.2
  refine ⟨fun e z => ?_, fun l z => ?_, t ++ u, by rw [hu, ht, List.append_assoc]⟩
  · rw [g.1 e (by rw [h.1 e z]; exact z), h.1 e z]
  · rw [g.2.1 l (by rw [h.2.1 l z]; exact z), h.2.1 l z]
theorem le_W {a b : sT} {s s' : lkT} {e f : Int} (hW : lW a b s) (he : s_al a e) (hf : s_al b f) (h : le a b s e f = some s') : lW a b s' ∧ lx s s' ∧ s'.1 e.toNat = f ∧ s'.2.1 = s.2.1 := by
  unfold le at h
  have f0 := hf.1
  split at h
  · next z =>
    split at h
    · next y =>
      cases h
      exact ⟨hW, lx_rf s, y, rfl⟩
    · cases h
  · next z =>
    have z : s.1 e.toNat = -1 := Classical.byContradiction z
    split at h
    · next y =>
      cases h
      have en : e.toNat ∉ s.2.2 := fun w => (hW.2.1 _).mp w z
      refine ⟨⟨List.nodup_append.mpr ⟨hW.1, List.nodup_cons.mpr ⟨List.not_mem_nil, List.nodup_nil⟩, fun x hx w hw => ?_⟩, fun x => ?_, fun x hx => ?_⟩, ⟨fun x hx => ?_, fun _ _ => rfl, [e.toNat], rfl⟩, sn_up_at _ _ _, rfl⟩
      · rw [List.mem_singleton.mp hw]
        exact fun v => en (v ▸ hx)
      · show x ∈ s.2.2 ++ [e.toNat] ↔ ¬ sn_up s.1 e.toNat f x = -1
        rw [List.mem_append, List.mem_singleton, hW.2.1 x]
        by_cases w : x = e.toNat
        · subst w
          rw [sn_up_at]
          exact ⟨fun _ => by omega, fun _ => Or.inr rfl⟩
        · rw [sn_up_ne _ w]
          exact ⟨fun v => v.elim id (fun u => absurd u w), Or.inl⟩
      · show eal a x ∧ s_al b (sn_up s.1 e.toNat f x) ∧ a.1 4 x = b.1 4 (sn_up s.1 e.toNat f x).toNat ∧ a.1 7 x = b.1 7 (sn_up s.1 e.toNat f x).toNat
        by_cases w : x = e.toNat
        · subst w
          rw [sn_up_at]
          exact ⟨(eal_n he).1, hf, y⟩
        · rw [sn_up_ne _ w]
          rcases List.mem_append.mp hx with v | v
          · exact hW.2.2 x v
          · exact absurd (List.mem_singleton.mp v) w
      · show sn_up s.1 e.toNat f x = s.1 x
        by_cases w : x = e.toNat
        · subst w
          exact absurd z hx
        · exact sn_up_ne _ w
    · cases h
/-- a link that has been laid, with its edges -/
def lad (a b : sT) (s : lkT) (l : Nat) : Prop := lal a (l : Int) ∧ lal b (s.2.1 l) ∧ a.1 0 l = b.1 0 (s.2.1 l).toNat ∧ s.1 (a.1 1 l).toNat = (if cr a b l (s.2.1 l) then b.1 2 (s.2.1 l).toNat else b.1 1 (s.2.1 l).toNat) ∧ s.1 (a.1 2 l).toNat = (if cr a b l (s.2.1 l) then b.1 1 (s.2.1 l).toNat else b.1 2 (s.2.1 l).toNat) ∧ (¬ a.1 3 l = -1 → s.1 (a.1 3 l).toNat = b.1 3 (s.2.1 l).toNat)
theorem al_ne {S : sT} {e : Int} (h : s_al S e) : ¬ e = -1 := by have := h.1; omega
theorem lad_x {T : fT} {a b : sT} (ha : s_ok T a) (hb : s_ok T b) {s s' : lkT} {l : Nat} (h : lad a b s l) (x : lx s s') : lad a b s' l := by
  obtain ⟨h1, h2, h3, h4, h5, h6⟩ := h
  have em : s.2.1 l = ((s.2.1 l).toNat : Int) := by have := h2.1; omega
  obtain ⟨b1, b2, -, -, b3⟩ := l_edg hb (l := (s.2.1 l).toNat) (by rw [← em]; exact h2)
  obtain ⟨-, -, -, a3, -⟩ := l_edg ha h1
  have hm : s'.2.1 l = s.2.1 l := x.2.1 l (by have := h2.1; omega)
  unfold lad
  rw [hm]
  refine ⟨h1, h2, h3, ?_, ?_, fun z => ?_⟩
  · rw [x.1 _ (by rw [h4]; split; exact al_ne b2; exact al_ne b1)]
    exact h4
  · rw [x.1 _ (by rw [h5]; split; exact al_ne b1; exact al_ne b2)]
    exact h5
  · have h6 := h6 z
    have k12 : a.1 0 l = 1 ∨ a.1 0 l = 2 := by
      rcases a3 with a3 | ⟨-, a3⟩
      · exact absurd a3 z
      · exact a3
    rw [h3] at k12
    rw [x.1 _ (by rw [h6]; exact al_ne (b3 k12))]
    exact h6
theorem ll_W {T : fT} {a b : sT} (ha : s_ok T a) (hb : s_ok T b) {s s' : lkT} {l m : Int} (hW : lW a b s) (hL : ∀ k, ¬ s.2.1 k = -1 → lad a b s k) (hl : l = -1 ∨ lal a l) (hm : m = -1 ∨ lal b m) (h : ll a b s l m = some s') : lW a b s' ∧ (∀ k, ¬ s'.2.1 k = -1 → lad a b s' k) ∧ lx s s' ∧ ((l = -1 ∧ m = -1) ∨ (¬ l = -1 ∧ ¬ m = -1 ∧ s'.2.1 l.toNat = m)) := by
  unfold ll at h
  split at h
  · next z =>
    split at h
    · next y =>
      cases h
      exact ⟨hW, hL, lx_rf s, Or.inl (by omega)⟩
    · cases h
  · next z =>
    have zl : ¬ l = -1 := fun y => z (Or.inl y)
    have zm : ¬ m = -1 := fun y => z (Or.inr y)
    have hl := hl.resolve_left zl
    have hm := hm.resolve_left zm
    split at h
    · next y =>
      split at h
      · next x =>
        cases h
        exact ⟨hW, hL, lx_rf s, Or.inr ⟨zl, zm, x⟩⟩
      · cases h
    · next y =>
      have y : s.2.1 l.toNat = -1 := Classical.byContradiction y
      split at h
      · next k =>
        have el : l = (l.toNat : Int) := by have := hl.1; omega
        have em : m = (m.toNat : Int) := by have := hm.1; omega
        obtain ⟨a1, a2, -, a3, -⟩ := l_edg ha (l := l.toNat) (by rw [← el]; exact hl)
        obtain ⟨b1, b2, -, -, b3⟩ := l_edg hb (l := m.toNat) (by rw [← em]; exact hm)
        unfold ll2 at h
        have W0 : lW a b (s.1, sn_up s.2.1 l.toNat m, s.2.2) := hW
        have x0 : lx s (s.1, sn_up s.2.1 l.toNat m, s.2.2) := ⟨fun _ _ => rfl, fun k hk => sn_up_ne _ (fun w => hk (by rw [w]; exact y)), [], (List.append_nil _).symm⟩
        obtain ⟨s1, h1, h⟩ := Option.bind_eq_some_iff.mp h
        obtain ⟨W1, x1, v1, q1⟩ := le_W W0 a1 (by split; exact b2; exact b1) h1
        obtain ⟨s2, h2, h⟩ := Option.bind_eq_some_iff.mp h
        obtain ⟨W2, x2, v2, q2⟩ := le_W W1 a2 (by split; exact b1; exact b2) h2
        have key : lW a b s' ∧ lx s2 s' ∧ (¬ a.1 3 l.toNat = -1 → s'.1 (a.1 3 l.toNat).toNat = b.1 3 m.toNat) ∧ s'.2.1 = s2.2.1 := by
          split at h
          · next w =>
            cases h
            exact ⟨W2, lx_rf _, fun v => absurd w v, rfl⟩
          · next w =>
            have k12 : a.1 0 l.toNat = 1 ∨ a.1 0 l.toNat = 2 := by
              rcases a3 with a3 | ⟨-, a3⟩
              · exact absurd a3 w
              · exact a3
            have a3 := (a3.resolve_left w).1
            rw [k] at k12
            obtain ⟨W3, x3, v3, q3⟩ := le_W W2 a3 (b3 k12) h
            exact ⟨W3, x3, fun _ => v3, q3⟩
        obtain ⟨W3, x3, v3, q3⟩ := key
        have x12 := lx_t x1 x2
        have x13 := lx_t x12 x3
        have q : s'.2.1 = sn_up s.2.1 l.toNat m := q3.trans (q2.trans q1)
        refine ⟨W3, fun k' hk' => ?_, lx_t x0 x13, Or.inr ⟨zl, zm, by rw [q]; exact sn_up_at _ _ _⟩⟩
        by_cases e : k' = l.toNat
        · subst e
          have em' : s'.2.1 l.toNat = m := by rw [q]; exact sn_up_at _ _ _
          unfold lad
          rw [em', ← el]
          refine ⟨hl, hm, k, ?_, ?_, v3⟩
          · rw [(lx_t x2 x3).1 _ (by rw [v1]; split; exact al_ne b2; exact al_ne b1)]
            exact v1
          · rw [x3.1 _ (by rw [v2]; split; exact al_ne b1; exact al_ne b2)]
            exact v2
        · refine lad_x ha hb (hL k' ?_) (lx_t x0 x13)
          rw [q, sn_up_ne _ e] at hk'
          exact hk'
      · cases h
/-- the ends of an edge that has been laid are laid too -/
def lds (a b : sT) (s : lkT) (e : Nat) : Prop := s.2.1 (a.1 5 e).toNat = b.1 5 (s.1 e).toNat ∧ ((a.1 6 e = -1 ∧ b.1 6 (s.1 e).toNat = -1) ∨ (¬ a.1 6 e = -1 ∧ ¬ b.1 6 (s.1 e).toNat = -1 ∧ s.2.1 (a.1 6 e).toNat = b.1 6 (s.1 e).toNat))
theorem lds_x {T : fT} {a b : sT} (hb : s_ok T b) {s s' : lkT} {e : Nat} (he : s_al b (s.1 e)) (h : lds a b s e) (x : lx s s') : lds a b s' e := by
  have ee : s'.1 e = s.1 e := x.1 e (al_ne he)
  have b5 := (e_src hb (eal_n he).1).1
  obtain ⟨h1, h2⟩ := h
  unfold lds
  rw [ee]
  refine ⟨?_, ?_⟩
  · rw [x.2.1 _ (by rw [h1]; have := b5.1; omega)]
    exact h1
  · rcases h2 with h2 | ⟨h2, h3, h4⟩
    · exact Or.inl h2
    · refine Or.inr ⟨h2, h3, ?_⟩
      rw [x.2.1 _ (by rw [h4]; exact h3)]
      exact h4
theorem lt_W {T : fT} {a b : sT} (ha : s_ok T a) (hb : s_ok T b) {s s' : lkT} {e : Nat} (hW : lW a b s) (hL : ∀ k, ¬ s.2.1 k = -1 → lad a b s k) (he : e ∈ s.2.2) (h : lt a b s e = some s') : lW a b s' ∧ (∀ k, ¬ s'.2.1 k = -1 → lad a b s' k) ∧ lx s s' ∧ lds a b s' e := by
  unfold lt at h
  obtain ⟨e1, e2, -, -⟩ := hW.2.2 e he
  obtain ⟨s1, h1, h⟩ := Option.bind_eq_some_iff.mp h
  have l5 := (e_src ha e1).1
  have m5 := (e_src hb (eal_n e2).1).1
  have l6 : a.1 6 e = -1 ∨ lal a (a.1 6 e) := (e_use ha e1).imp id (fun z => z.1)
  have m6 : b.1 6 (s.1 e).toNat = -1 ∨ lal b (b.1 6 (s.1 e).toNat) := (e_use hb (eal_n e2).1).imp id (fun z => z.1)
  obtain ⟨W1, L1, x1, v1⟩ := ll_W ha hb hW hL (Or.inr l5) (Or.inr m5) h1
  obtain ⟨W2, L2, x2, v2⟩ := ll_W ha hb W1 L1 l6 m6 h
  have x := lx_t x1 x2
  have ee : s'.1 e = s.1 e := x.1 e (al_ne e2)
  refine ⟨W2, L2, x, ?_⟩
  unfold lds
  rw [ee]
  refine ⟨?_, v2⟩
  rcases v1 with ⟨v1, -⟩ | ⟨-, v1, v3⟩
  · have := l5.1
    omega
  · rw [x2.2.1 _ (by rw [v3]; exact v1)]
    exact v3
theorem lW_len {a b : sT} {s : lkT} (h : lW a b s) : s.2.2.length ≤ a.2.2.1 := by
  have := nd_le h.1 (A := List.range a.2.2.1) (fun e he => List.mem_range.mpr (h.2.2 e he).1.1)
  rw [List.length_range] at this
  exact this
theorem lh_W {T : fT} {a b : sT} (ha : s_ok T a) (hb : s_ok T b) : ∀ (n i : Nat) (s : lkT), a.2.2.1 ≤ n + i → lW a b s → (∀ k, ¬ s.2.1 k = -1 → lad a b s k) → (∀ j e, j < i → s.2.2[j]? = some e → lds a b s e) → lh a b n s i = true → ∃ s', lx s s' ∧ lW a b s' ∧ (∀ k, ¬ s'.2.1 k = -1 → lad a b s' k) ∧ ∀ e ∈ s'.2.2, lds a b s' e := by
  intro n
  induction n with
  | zero =>
    intro i s hn hW hL hD _
    refine ⟨s, lx_rf s, hW, hL, fun e he => ?_⟩
    obtain ⟨j, hj⟩ := List.getElem?_of_mem he
    have := (List.getElem?_eq_some_iff.mp hj).1
    have := lW_len hW
    exact hD j e (by omega) hj
  | succ n ih =>
    intro i s hn hW hL hD h
    unfold lh at h
    split at h
    · next z =>
      refine ⟨s, lx_rf s, hW, hL, fun e he => ?_⟩
      obtain ⟨j, hj⟩ := List.getElem?_of_mem he
      have := (List.getElem?_eq_some_iff.mp hj).1
      have := List.getElem?_eq_none_iff.mp z
      exact hD j e (by omega) hj
    · next e z =>
      split at h
      · cases h
      · next s1 y =>
        have he := List.mem_of_getElem? z
        obtain ⟨W1, L1, x1, v1⟩ := lt_W ha hb hW hL he y
        have hD' : ∀ j e', j < i + 1 → s1.2.2[j]? = some e' → lds a b s1 e' := by
          intro j e' hj hj'
          obtain ⟨t, ht⟩ := x1.2.2
          have hi := (List.getElem?_eq_some_iff.mp z).1
          rw [ht] at hj'
          by_cases w : j = i
          · subst w
            rw [List.getElem?_append_left hi, z] at hj'
            cases hj'
            exact v1
          · rw [List.getElem?_append_left (by omega)] at hj'
            exact lds_x hb (hW.2.2 e' (List.mem_of_getElem? hj')).2.1 (hD j e' (by omega) hj') x1
        obtain ⟨s', h1, h2⟩ := ih (i + 1) s1 (by omega) W1 L1 hD' h
        exact ⟨s', lx_t x1 h1, h2⟩
/-- all links of a net hang together -/
def hc (S : sT) : Prop := (∃ P : Nat → Bool, upc S P ∧ (∀ l : Nat, P l = true ↔ lal S (l : Int)) ∧ ∀ x y, P x = true → P y = true → cn (pG S P) x y)
/-- what holds of one link holds of all, where edges carry it -/
theorem hc_all {T : fT} {S : sT} (hok : s_ok T S) (h : hc S) {D : Nat → Prop} (hD : ∀ e, eal S e → ∀ u v : Nat, S.1 5 e = (u : Int) → S.1 6 e = (v : Int) → (D u ↔ D v)) {x : Nat} (hx : lal S (x : Int)) (h0 : D x) : ∀ y : Nat, lal S (y : Int) → D y := by
  obtain ⟨P, h1, h2, h3⟩ := h
  intro y hy
  have := cn_least (P := fun u v => (D u ↔ D v)) (fun _ => Iff.rfl) (fun _ _ h => h.symm) (fun _ _ _ h g => h.trans g) (fun q hq => by
    obtain ⟨-, e, e1, e2, e3, e4⟩ := pG_eg hok h1 hq
    exact hD e ⟨e1, e2⟩ q.1 q.2 e3 e4) (h3 x y ((h2 x).mpr hx) ((h2 y).mpr hy))
  exact this.mp h0
theorem cr_T {a b : sT} (s : lkT) {l : Nat} (h : lad a b s l) : (a.1 0 l = 0 → (s.1 (a.1 1 l).toNat = b.1 1 (s.2.1 l).toNat ∧ s.1 (a.1 2 l).toNat = b.1 2 (s.2.1 l).toNat) ∨ (s.1 (a.1 1 l).toNat = b.1 2 (s.2.1 l).toNat ∧ s.1 (a.1 2 l).toNat = b.1 1 (s.2.1 l).toNat)) ∧ (1 ≤ a.1 0 l → s.1 (a.1 1 l).toNat = b.1 1 (s.2.1 l).toNat ∧ s.1 (a.1 2 l).toNat = b.1 2 (s.2.1 l).toNat) := by
  obtain ⟨-, -, -, h4, h5, -⟩ := h
  by_cases c : cr a b l (s.2.1 l)
  · rw [if_pos c] at h4 h5
    exact ⟨fun _ => Or.inr ⟨h4, h5⟩, fun z => by have : a.1 0 l = 0 := c.1; omega⟩
  · rw [if_neg c] at h4 h5
    exact ⟨fun _ => Or.inl ⟨h4, h5⟩, fun _ => ⟨h4, h5⟩⟩
/-- the class found a map -/
theorem lk_gm {T : fT} {a b : sT} (ha : s_ok T a) (hb : s_ok T b) (hc' : hc a) (h0 : 0 < a.2.2.2) (h0' : 0 < b.2.2.2) {s : lkT} (hs : le a b (fun _ => -1, fun _ => -1, []) (a.1 8 0) (b.1 8 0) = some s) {n : Nat} (hn : a.2.2.1 ≤ n) (h : lh a b n s 0 = true) : ∃ φ ψ, gm a b φ ψ := by
  have c0 := (ha.2.2.2.1 0 h0).1
  have d0 := (hb.2.2.2.1 0 h0').1
  have W0 : lW a b (fun _ => -1, fun _ => -1, []) := ⟨List.nodup_nil, fun e => ⟨fun z => (by cases z), fun z => absurd rfl z⟩, fun e he => (by cases he)⟩
  obtain ⟨W1, x1, v1, q1⟩ := le_W W0 c0 d0 hs
  obtain ⟨s', x2, W2, L2, D2⟩ := lh_W ha hb n 0 s (by omega) W1 (fun k z => absurd (by rw [q1]) z) (fun j e hj => absurd hj (Nat.not_lt_zero j)) h
  have v2 : s'.1 (a.1 8 0).toNat = b.1 8 0 := by rw [x2.1 _ (by rw [v1]; exact al_ne d0)]; exact v1
  have in0 : (a.1 8 0).toNat ∈ s'.2.2 := (W2.2.1 _).mpr (by rw [v2]; exact al_ne d0)
  -- where a link is laid, its edges are
  have toE : ∀ e, eal a e → ¬ s'.2.1 (a.1 5 e).toNat = -1 → e ∈ s'.2.2 := by
    intro e he hz
    have ld := L2 _ hz
    obtain ⟨l1, l2, l3, l4⟩ := e_src ha he
    have em : s'.2.1 (a.1 5 e).toNat = ((s'.2.1 (a.1 5 e).toNat).toNat : Int) := by have := ld.2.1.1; omega
    obtain ⟨b1, b2, -, -, b3⟩ := l_edg hb (l := (s'.2.1 (a.1 5 e).toNat).toNat) (by rw [← em]; exact ld.2.1)
    refine (W2.2.1 e).mpr ?_
    by_cases k0 : a.1 0 (a.1 5 e).toNat = 0
    · rcases l3 k0 with y | y
      · have := ld.2.2.2.1
        rw [y] at this
        rw [show ((e : Int)).toNat = e from rfl] at this
        rw [this]
        split
        · exact al_ne b2
        · exact al_ne b1
      · have := ld.2.2.2.2.1
        rw [y] at this
        rw [show ((e : Int)).toNat = e from rfl] at this
        rw [this]
        split
        · exact al_ne b1
        · exact al_ne b2
    · have k1 : 1 ≤ a.1 0 (a.1 5 e).toNat := by have := l1.2.2; omega
      obtain ⟨k12, y⟩ := l4 k1
      have := ld.2.2.2.2.2 (by rw [y]; omega)
      rw [y, show ((e : Int)).toNat = e from rfl] at this
      rw [this]
      refine al_ne (b3 ?_)
      rw [← ld.2.2.1]
      exact k12
  have toU : ∀ e, eal a e → ¬ a.1 6 e = -1 → ¬ s'.2.1 (a.1 6 e).toNat = -1 → e ∈ s'.2.2 := by
    intro e he hu hz
    have ld := L2 _ hz
    have em : s'.2.1 (a.1 6 e).toNat = ((s'.2.1 (a.1 6 e).toNat).toNat : Int) := by have := ld.2.1.1; omega
    obtain ⟨b1, b2, -, -, b3⟩ := l_edg hb (l := (s'.2.1 (a.1 6 e).toNat).toNat) (by rw [← em]; exact ld.2.1)
    refine (W2.2.1 e).mpr ?_
    obtain ⟨u1, u2, u3, u4⟩ := (e_use ha he).resolve_left hu
    rcases u4 with y | y
    · have := ld.2.2.2.1
      rw [y, show ((e : Int)).toNat = e from rfl] at this
      rw [this]
      split
      · exact al_ne b2
      · exact al_ne b1
    · have := ld.2.2.2.2.1
      rw [y, show ((e : Int)).toNat = e from rfl] at this
      rw [this]
      split
      · exact al_ne b1
      · exact al_ne b2
  have dS : ∀ e ∈ s'.2.2, ¬ s'.2.1 (a.1 5 e).toNat = -1 := fun e he => by
    have := (e_src hb (eal_n (W2.2.2 e he).2.1).1).1.1
    rw [(D2 e he).1]
    omega
  have all : ∀ l : Nat, lal a (l : Int) → ¬ s'.2.1 l = -1 := by
    have e5 := e_src ha (W2.2.2 _ in0).1
    refine hc_all ha hc' (D := fun l => ¬ s'.2.1 l = -1) (fun e he u v hu hv => ?_) (x := (a.1 5 (a.1 8 0).toNat).toNat) (by rw [← e5.2.1]; exact e5.1) (dS _ in0)
    have eu : (a.1 5 e).toNat = u := by omega
    have ev : (a.1 6 e).toNat = v := by omega
    have hv1 : ¬ a.1 6 e = -1 := by omega
    constructor
    · intro z
      have ein := toE e he (by rw [eu]; exact z)
      rcases (D2 e ein).2 with ⟨y, -⟩ | ⟨-, y, y2⟩
      · exact absurd y hv1
      · rw [← ev, y2]
        exact y
    · intro z
      have ein := toU e he hv1 (by rw [ev]; exact z)
      rw [← eu]
      exact dS e ein
  have allE : ∀ e, eal a e → e ∈ s'.2.2 := fun e he => toE e he (all _ (by have := e_src ha he; rw [← this.2.1]; exact this.1))
  have tn : ∀ e, eal a e → s'.1 e = ((s'.1 e).toNat : Int) := fun e he => by have := (W2.2.2 e (allE e he)).2.1.1; omega
  have tl : ∀ l : Nat, lal a (l : Int) → s'.2.1 l = ((s'.2.1 l).toNat : Int) := fun l hl => by have := (L2 l (all l hl)).2.1.1; omega
  refine ⟨fun e => (s'.1 e).toNat, fun l => (s'.2.1 l).toNat, fun e he => ?_, fun l hl => ?_, ?_⟩
  · obtain ⟨w1, w2, w3, w4⟩ := W2.2.2 e (allE e he)
    obtain ⟨d1, d2⟩ := D2 e (allE e he)
    have s5 := e_src ha he
    have t5 := tl (a.1 5 e).toNat (by rw [← s5.2.1]; exact s5.1)
    refine ⟨by show s_al b ((s'.1 e).toNat : Int); rw [← tn e he]; exact w2, w3.symm, w4.symm, ?_, fun z => ?_, fun l hl => ?_⟩
    · show b.1 5 (s'.1 e).toNat = ((s'.2.1 (a.1 5 e).toNat).toNat : Int)
      rw [← t5, d1]
    · rcases d2 with y | y
      · exact y.2
      · exact absurd z y.1
    · rcases d2 with y | y
      · omega
      · have el : (a.1 6 e).toNat = l := by omega
        have := y.2.2
        rw [el] at this
        show b.1 6 (s'.1 e).toNat = ((s'.2.1 l).toNat : Int)
        rw [← this]
        exact tl l (by rw [← hl]; exact ((e_use ha he).resolve_left y.1).1)
  · have ld := L2 l (all l hl)
    obtain ⟨a1, a2, -, a3, a4⟩ := l_edg ha hl
    obtain ⟨c1, c2⟩ := cr_T s' ld
    have t1 := tn _ (eal_n a1).1
    have t2 := tn _ (eal_n a2).1
    refine ⟨by show lal b ((s'.2.1 l).toNat : Int); rw [← tl l hl]; exact ld.2.1, ld.2.2.1.symm, fun k => ?_, fun k => ?_, fun k => ?_⟩
    · show (((s'.1 (a.1 1 l).toNat).toNat : Int) = _ ∧ ((s'.1 (a.1 2 l).toNat).toNat : Int) = _) ∨ (((s'.1 (a.1 1 l).toNat).toNat : Int) = _ ∧ ((s'.1 (a.1 2 l).toNat).toNat : Int) = _)
      rw [← t1, ← t2]
      exact c1 k
    · show ((s'.1 (a.1 1 l).toNat).toNat : Int) = _ ∧ ((s'.1 (a.1 2 l).toNat).toNat : Int) = _
      rw [← t1, ← t2]
      exact c2 k
    · have t3 := tn _ (eal_n (a4 k)).1
      show ((s'.1 (a.1 3 l).toNat).toNat : Int) = _
      rw [← t3]
      exact ld.2.2.2.2.2 (al_ne (a4 k))
  · show ((s'.1 (a.1 8 0).toNat).toNat : Int) = _
    rw [v2]
    have := d0.1
    omega
/-- where there is a map, what is laid is part of it -/
def ls (φ ψ : Nat → Nat) (s : lkT) : Prop := (∀ e, ¬ s.1 e = -1 → s.1 e = (φ e : Int)) ∧ ∀ l, ¬ s.2.1 l = -1 → s.2.1 l = (ψ l : Int)
theorem le_A {a b : sT} {φ ψ : Nat → Nat} (g : gm a b φ ψ) {s : lkT} (hs : ls φ ψ s) {e f : Int} (he : s_al a e) (hf : f = (φ e.toNat : Int)) : ∃ s', le a b s e f = some s' ∧ ls φ ψ s' := by
  obtain ⟨g1, g2, g3, -⟩ := g.1 e.toNat (eal_n he).1
  have ff : f.toNat = φ e.toNat := by omega
  unfold le
  by_cases z : ¬ s.1 e.toNat = -1
  · rw [if_pos z, if_pos (by rw [hf]; exact hs.1 _ z)]
    exact ⟨s, rfl, hs⟩
  · rw [if_neg z, if_pos (by rw [ff]; exact ⟨g2.symm, g3.symm⟩)]
    refine ⟨_, rfl, fun x hx => ?_, hs.2⟩
    by_cases w : x = e.toNat
    · subst w
      show sn_up s.1 e.toNat f e.toNat = _
      rw [sn_up_at]
      exact hf
    · have hx : ¬ sn_up s.1 e.toNat f x = -1 := hx
      rw [sn_up_ne _ w] at hx
      show sn_up s.1 e.toNat f x = _
      rw [sn_up_ne _ w]
      exact hs.1 x hx
theorem cr_A {T : fT} {a b : sT} (hT : fT_ok T) (ha : s_ok T a) (hb : s_ok T b) {φ ψ : Nat → Nat} (g : gm a b φ ψ) {l : Nat} (hl : lal a (l : Int)) : (if cr a b l (ψ l : Int) then b.1 2 (ψ l) else b.1 1 (ψ l)) = (φ (a.1 1 l).toNat : Int) ∧ (if cr a b l (ψ l : Int) then b.1 1 (ψ l) else b.1 2 (ψ l)) = (φ (a.1 2 l).toNat : Int) := by
  obtain ⟨m1, m2, m3, m4, -⟩ := g.2.1 l hl
  obtain ⟨a1, a2, -⟩ := l_edg ha hl
  obtain ⟨p1, p2, -⟩ := g.1 _ (eal_n a1).1
  by_cases k : a.1 0 l = 0
  · rcases m3 k with ⟨z1, z2⟩ | ⟨z1, z2⟩
    · have nc : ¬ cr a b l (ψ l : Int) := fun c => c.2 (by
        show a.1 4 (a.1 1 l).toNat = b.1 4 (b.1 1 (ψ l)).toNat
        rw [← z1, show (((φ (a.1 1 l).toNat : Nat) : Int)).toNat = φ (a.1 1 l).toNat from rfl]
        exact p2.symm)
      rw [if_neg nc, if_neg nc]
      exact ⟨z1.symm, z2.symm⟩
    · have lm : ψ l < b.2.1 := by have := m1.2.1; omega
      obtain ⟨b1, b2, -, -, -, -, b7⟩ := (hb.2.1 (ψ l) lm).2.1 (by omega)
      have e1 : (b.1 1 (ψ l)).toNat < b.2.2.1 := (eal_n b1).1.1
      have w := (hb.2.2.1 _ e1).1
      have b13 := b1.2.2
      have hc : cr a b l (ψ l : Int) := ⟨k, fun z => by
        have z : a.1 4 (a.1 1 l).toNat = b.1 4 (b.1 1 (ψ l)).toNat := z
        have q : b.1 4 (b.1 2 (ψ l)).toNat = a.1 4 (a.1 1 l).toNat := by
          rw [← z1, show (((φ (a.1 1 l).toNat : Nat) : Int)).toNat = φ (a.1 1 l).toNat from rfl]
          exact p2
        refine du_ne hT (f := (b.1 4 (b.1 1 (ψ l)).toNat).toNat) (by omega) ?_
        rw [b7, q, z]
        omega⟩
      rw [if_pos hc, if_pos hc]
      exact ⟨z1.symm, z2.symm⟩
  · have nc : ¬ cr a b l (ψ l : Int) := fun c => k c.1
    have k1 : 1 ≤ a.1 0 l := by have : 0 ≤ a.1 0 l := hl.2.2; omega
    rw [if_neg nc, if_neg nc]
    exact ⟨(m4 k1).1.symm, (m4 k1).2.symm⟩
theorem ll_A {T : fT} {a b : sT} (hT : fT_ok T) (ha : s_ok T a) (hb : s_ok T b) {φ ψ : Nat → Nat} (g : gm a b φ ψ) {s : lkT} (hs : ls φ ψ s) {l m : Int} (hlm : (l = -1 ∧ m = -1) ∨ (lal a l ∧ m = (ψ l.toNat : Int))) : ∃ s', ll a b s l m = some s' ∧ ls φ ψ s' := by
  unfold ll
  rcases hlm with ⟨rfl, rfl⟩ | ⟨hl, rfl⟩
  · rw [if_pos (Or.inl rfl), if_pos rfl]
    exact ⟨s, rfl, hs⟩
  · have l0 := hl.1
    obtain ⟨n, rfl⟩ := Int.eq_ofNat_of_zero_le l0
    rw [if_neg (by omega)]
    show ∃ s', (if ¬ s.2.1 n = -1 then (if s.2.1 n = (ψ n : Int) then some s else none) else if a.1 0 n = b.1 0 (ψ n) then ll2 a b (s.1, sn_up s.2.1 n (ψ n : Int), s.2.2) (n : Int) (ψ n : Int) else none) = some s' ∧ ls φ ψ s'
    by_cases z : ¬ s.2.1 n = -1
    · rw [if_pos z, if_pos (hs.2 n z)]
      exact ⟨s, rfl, hs⟩
    · obtain ⟨m1, m2, m3, m4, m5⟩ := g.2.1 n hl
      rw [if_neg z, if_pos m2.symm]
      have s0 : ls φ ψ (s.1, sn_up s.2.1 n (ψ n : Int), s.2.2) := by
        refine ⟨hs.1, fun k hk => ?_⟩
        by_cases w : k = n
        · subst w
          exact sn_up_at _ _ _
        · have hk : ¬ sn_up s.2.1 n (ψ n : Int) k = -1 := hk
          rw [sn_up_ne _ w] at hk
          show sn_up s.2.1 n (ψ n : Int) k = _
          rw [sn_up_ne _ w]
          exact hs.2 k hk
      obtain ⟨a1, a2, -, a3, -⟩ := l_edg ha hl
      obtain ⟨c1, c2⟩ := cr_A hT ha hb g hl
      unfold ll2
      obtain ⟨s1, h1, t1⟩ := le_A g s0 a1 c1
      obtain ⟨s2, h2, t2⟩ := le_A g t1 a2 c2
      have h1 : le a b (s.1, sn_up s.2.1 n (ψ n : Int), s.2.2) (a.1 1 ((n : Int)).toNat) (if cr a b (n : Int) (ψ n : Int) then b.1 2 ((ψ n : Int)).toNat else b.1 1 ((ψ n : Int)).toNat) = some s1 := h1
      have h2 : le a b s1 (a.1 2 ((n : Int)).toNat) (if cr a b (n : Int) (ψ n : Int) then b.1 1 ((ψ n : Int)).toNat else b.1 2 ((ψ n : Int)).toNat) = some s2 := h2
      rw [h1, Option.bind_some, h2, Option.bind_some]
      show ∃ s', (if a.1 3 n = -1 then some s2 else le a b s2 (a.1 3 n) (b.1 3 (ψ n))) = some s' ∧ ls φ ψ s'
      by_cases y : a.1 3 n = -1
      · rw [if_pos y]
        exact ⟨s2, rfl, t2⟩
      · rw [if_neg y]
        obtain ⟨a3, k12⟩ := a3.resolve_left y
        exact le_A g t2 a3 (m5 k12).symm
theorem lt_A {T : fT} {a b : sT} (hT : fT_ok T) (ha : s_ok T a) (hb : s_ok T b) {φ ψ : Nat → Nat} (g : gm a b φ ψ) {s : lkT} (hs : ls φ ψ s) {e : Nat} (he : eal a e) (hz : ¬ s.1 e = -1) : ∃ s', lt a b s e = some s' ∧ ls φ ψ s' := by
  obtain ⟨g1, -, -, g4, g5, g6⟩ := g.1 e he
  have ee := hs.1 e hz
  unfold lt
  rw [ee, show (((φ e : Nat) : Int)).toNat = φ e from rfl]
  have s5 := e_src ha he
  obtain ⟨s1, h1, t1⟩ := ll_A hT ha hb g hs (l := a.1 5 e) (m := b.1 5 (φ e)) (Or.inr ⟨s5.1, g4⟩)
  rw [h1, Option.bind_some]
  refine ll_A hT ha hb g t1 ?_
  rcases e_use ha he with z | ⟨z1, -, z3, -⟩
  · exact Or.inl ⟨z, g5 z⟩
  · exact Or.inr ⟨z1, g6 _ z3⟩
theorem lh_A {T : fT} {a b : sT} (hT : fT_ok T) (ha : s_ok T a) (hb : s_ok T b) {φ ψ : Nat → Nat} (g : gm a b φ ψ) : ∀ (n i : Nat) (s : lkT), lW a b s → (∀ k, ¬ s.2.1 k = -1 → lad a b s k) → ls φ ψ s → lh a b n s i = true := by
  intro n
  induction n with
  | zero => intro i s _ _ _; rfl
  | succ n ih =>
    intro i s hW hL hs
    unfold lh
    split
    · rfl
    · next e z =>
      have he := List.mem_of_getElem? z
      obtain ⟨s1, h1, t1⟩ := lt_A hT ha hb g hs (hW.2.2 e he).1 ((hW.2.1 e).mp he)
      rw [h1]
      obtain ⟨W1, L1, -, -⟩ := lt_W ha hb hW hL he h1
      exact ih (i + 1) s1 W1 L1 t1
theorem gm_lk {T : fT} {a b : sT} (hT : fT_ok T) (ha : s_ok T a) (hb : s_ok T b) (h0 : 0 < a.2.2.2) (h0' : 0 < b.2.2.2) {φ ψ : Nat → Nat} (g : gm a b φ ψ) : ∃ s, le a b (fun _ => -1, fun _ => -1, []) (a.1 8 0) (b.1 8 0) = some s ∧ ∀ n, lh a b n s 0 = true := by
  have c0 := (ha.2.2.2.1 0 h0).1
  have d0 := (hb.2.2.2.1 0 h0').1
  have W0 : lW a b (fun _ => -1, fun _ => -1, []) := ⟨List.nodup_nil, fun e => ⟨fun z => (by cases z), fun z => absurd rfl z⟩, fun e he => (by cases he)⟩
  obtain ⟨s, hs, t⟩ := le_A g (s := (fun _ => -1, fun _ => -1, [])) ⟨fun _ z => absurd rfl z, fun _ z => absurd rfl z⟩ c0 g.2.2.symm
  obtain ⟨W1, -, -, q1⟩ := le_W W0 c0 d0 hs
  exact ⟨s, hs, fun n => lh_A hT ha hb g n 0 s W1 (fun k z => absurd (by rw [q1]) z) t⟩
