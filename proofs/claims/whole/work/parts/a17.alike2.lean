/-! Maps of one net onto another: the reference's way. -/
abbrev mkT := (Nat → Int) × List Nat
def me (s : mkT) (e k : Int) : Option mkT := if e < 0 ∨ k < 0 then (if e = k then some s else none) else if 0 ≤ s.1 e.toNat then (if s.1 e.toNat = k then some s else none) else some (sn_up s.1 e.toNat k, s.2 ++ [e.toNat])
def oth (S : sT) (A : Nat) (e : Int) : Int := if S.1 1 A = e then S.1 2 A else S.1 1 A
def fw1 (a b : sT) (s : mkT) (e : Nat) : Option mkT := if a.1 0 (a.1 5 e).toNat = 0 then me s (oth a (a.1 5 e).toNat e) (oth b (b.1 5 (s.1 e).toNat).toNat (s.1 e)) else (me s (a.1 1 (a.1 5 e).toNat) (b.1 1 (b.1 5 (s.1 e).toNat).toNat)).bind (fun s1 => me s1 (a.1 2 (a.1 5 e).toNat) (b.1 2 (b.1 5 (s.1 e).toNat).toNat))
def fw2 (a b : sT) (s : mkT) (t o : Int) : Option mkT := (me s (a.1 1 t.toNat) (b.1 1 o.toNat)).bind (fun s1 => (me s1 (a.1 2 t.toNat) (b.1 2 o.toNat)).bind (fun s2 => me s2 (a.1 3 t.toNat) (b.1 3 o.toNat)))
abbrev fw0 (a b : sT) (k : Int) (e : Nat) : Prop := a.1 4 e = b.1 4 k.toNat ∧ a.1 7 e = b.1 7 k.toNat ∧ a.1 0 (a.1 5 e).toNat = b.1 0 (b.1 5 k.toNat).toNat
def fw3 (a b : sT) (k : Int) (e : Nat) : Prop := a.1 0 (a.1 6 e).toNat = b.1 0 (b.1 6 k.toNat).toNat ∧ ((a.1 1 (a.1 6 e).toNat = (e : Int)) ↔ (b.1 1 (b.1 6 k.toNat).toNat = k))
noncomputable def fw (a b : sT) (s : mkT) (e : Nat) : Option mkT := if fw0 a b (s.1 e) e then (fw1 a b s e).bind (fun s1 => if a.1 6 e < 0 ∨ b.1 6 (s.1 e).toNat < 0 then (if a.1 6 e = b.1 6 (s.1 e).toNat then some s1 else none) else @ite (Option mkT) (fw3 a b (s.1 e) e) (Classical.propDecidable _) (fw2 a b s1 (a.1 6 e) (b.1 6 (s.1 e).toNat)) none) else none
noncomputable def mh (a b : sT) : Nat → mkT → Nat → Bool
  | 0, _, _ => true
  | n + 1, s, i => match s.2[i]? with
    | none => true
    | some e => match fw a b s e with
      | none => false
      | some s' => mh a b n s' (i + 1)
def mi (a b : sT) : Nat → Option mkT
  | 0 => some (fun _ => -1, [])
  | n + 1 => (mi a b n).bind (fun s => me s (a.1 8 n) (b.1 8 n))
def mW (a b : sT) (s : mkT) : Prop := s.2.Nodup ∧ (∀ e, e ∈ s.2 ↔ 0 ≤ s.1 e) ∧ ∀ e ∈ s.2, eal a e ∧ s_al b (s.1 e)
def mx (s s' : mkT) : Prop := (∀ e, 0 ≤ s.1 e → s'.1 e = s.1 e) ∧ ∃ t, s'.2 = s.2 ++ t
theorem mx_rf (s : mkT) : mx s s := ⟨fun _ _ => rfl, [], (List.append_nil _).symm⟩
theorem mx_t {s s' s'' : mkT} (h : mx s s') (g : mx s' s'') : mx s s'' := by
  obtain ⟨t, ht⟩ := h.2
  obtain ⟨u, hu⟩ := g.2
  refine ⟨fun e z => ?_, t ++ u, by rw [hu, ht, List.append_assoc]⟩
  rw [g.1 e (by rw [h.1 e z]; exact z), h.1 e z]
theorem me_W {a b : sT} {s s' : mkT} {e k : Int} (hW : mW a b s) (he : s_al a e) (hk : s_al b k) (h : me s e k = some s') : mW a b s' ∧ mx s s' ∧ s'.1 e.toNat = k := by
  unfold me at h
  have e0 := he.1
  have k0 := hk.1
  rw [if_neg (by omega)] at h
  split at h
  · next z =>
    split at h
    · next y =>
      cases h
      exact ⟨hW, mx_rf _, y⟩
    · cases h
  · next z =>
    cases h
    have en : e.toNat ∉ s.2 := fun w => z ((hW.2.1 _).mp w)
    refine ⟨⟨List.nodup_append.mpr ⟨hW.1, List.nodup_cons.mpr ⟨List.not_mem_nil, List.nodup_nil⟩, fun x hx w hw => ?_⟩, fun x => ?_, fun x hx => ?_⟩, ⟨fun x hx => ?_, [e.toNat], rfl⟩, sn_up_at _ _ _⟩
    · rw [List.mem_singleton.mp hw]
      exact fun v => en (v ▸ hx)
    · show x ∈ s.2 ++ [e.toNat] ↔ 0 ≤ sn_up s.1 e.toNat k x
      rw [List.mem_append, List.mem_singleton, hW.2.1 x]
      by_cases w : x = e.toNat
      · subst w
        rw [sn_up_at]
        exact ⟨fun _ => k0, fun _ => Or.inr rfl⟩
      · rw [sn_up_ne _ w]
        exact ⟨fun v => v.elim id (fun u => absurd u w), Or.inl⟩
    · show eal a x ∧ s_al b (sn_up s.1 e.toNat k x)
      by_cases w : x = e.toNat
      · subst w
        rw [sn_up_at]
        exact ⟨(eal_n he).1, hk⟩
      · rw [sn_up_ne _ w]
        rcases List.mem_append.mp hx with v | v
        · exact hW.2.2 x v
        · exact absurd (List.mem_singleton.mp v) w
    · show sn_up s.1 e.toNat k x = s.1 x
      by_cases w : x = e.toNat
      · subst w
        exact absurd hx z
      · exact sn_up_ne _ w
theorem me_X {a b : sT} {s s' : mkT} {e k : Int} (hW : mW a b s) (he : e = -1 ∨ s_al a e) (hk : k = -1 ∨ s_al b k) (h : me s e k = some s') : mW a b s' ∧ mx s s' ∧ ((e = -1 ∧ k = -1) ∨ (s_al a e ∧ s_al b k ∧ s'.1 e.toNat = k)) := by
  by_cases z : e = -1 ∨ k = -1
  · unfold me at h
    rw [if_pos (by omega)] at h
    split at h
    · next y =>
      cases h
      exact ⟨hW, mx_rf _, Or.inl (by omega)⟩
    · cases h
  · have he := he.resolve_left (fun y => z (Or.inl y))
    have hk := hk.resolve_left (fun y => z (Or.inr y))
    obtain ⟨h1, h2, h3⟩ := me_W hW he hk h
    exact ⟨h1, h2, Or.inr ⟨he, hk, h3⟩⟩
theorem oth_al {T : fT} {S : sT} (h : s_ok T S) {A : Nat} (hA : lal S (A : Int)) (e : Int) : s_al S (oth S A e) := by
  obtain ⟨a1, a2, -⟩ := l_edg h hA
  unfold oth
  split
  · exact a2
  · exact a1
/-- an edge that has been followed -/
def fwd (a b : sT) (s : mkT) (e : Nat) : Prop := fw0 a b (s.1 e) e ∧
  (a.1 0 (a.1 5 e).toNat = 0 → s.1 (oth a (a.1 5 e).toNat e).toNat = oth b (b.1 5 (s.1 e).toNat).toNat (s.1 e)) ∧
  (¬ a.1 0 (a.1 5 e).toNat = 0 → s.1 (a.1 1 (a.1 5 e).toNat).toNat = b.1 1 (b.1 5 (s.1 e).toNat).toNat ∧ s.1 (a.1 2 (a.1 5 e).toNat).toNat = b.1 2 (b.1 5 (s.1 e).toNat).toNat) ∧
  ((a.1 6 e = -1 ∧ b.1 6 (s.1 e).toNat = -1) ∨ (¬ a.1 6 e = -1 ∧ ¬ b.1 6 (s.1 e).toNat = -1 ∧ fw3 a b (s.1 e) e ∧ s.1 (a.1 1 (a.1 6 e).toNat).toNat = b.1 1 (b.1 6 (s.1 e).toNat).toNat ∧ s.1 (a.1 2 (a.1 6 e).toNat).toNat = b.1 2 (b.1 6 (s.1 e).toNat).toNat ∧ ((a.1 3 (a.1 6 e).toNat = -1 ∧ b.1 3 (b.1 6 (s.1 e).toNat).toNat = -1) ∨ (s_al a (a.1 3 (a.1 6 e).toNat) ∧ s.1 (a.1 3 (a.1 6 e).toNat).toNat = b.1 3 (b.1 6 (s.1 e).toNat).toNat ∧ s_al b (b.1 3 (b.1 6 (s.1 e).toNat).toNat)))))
theorem fwd_x {T : fT} {a b : sT} (hb : s_ok T b) {s s' : mkT} {e : Nat} (he : s_al b (s.1 e)) (h : fwd a b s e) (x : mx s s') : fwd a b s' e := by
  have ee : s'.1 e = s.1 e := x.1 e he.1
  have e5 := e_src hb (eal_n he).1
  have l5 : lal b (((b.1 5 (s.1 e).toNat).toNat : Nat) : Int) := by rw [← e5.2.1]; exact e5.1
  obtain ⟨b1, b2, -⟩ := l_edg hb l5
  obtain ⟨h0, h1, h2, h3⟩ := h
  unfold fwd
  rw [ee]
  refine ⟨h0, fun z => ?_, fun z => ?_, ?_⟩
  · rw [x.1 _ (by rw [h1 z]; exact (oth_al hb l5 _).1)]
    exact h1 z
  · obtain ⟨y1, y2⟩ := h2 z
    rw [x.1 _ (by rw [y1]; exact b1.1), x.1 _ (by rw [y2]; exact b2.1)]
    exact ⟨y1, y2⟩
  · rcases h3 with h3 | ⟨z1, z2, z3, z4, z5, z6⟩
    · exact Or.inl h3
    · obtain ⟨u1, u2, u3, -⟩ := (e_use hb (eal_n he).1).resolve_left z2
      obtain ⟨c1, c2, -⟩ := l_edg hb (l := (b.1 6 (s.1 e).toNat).toNat) (by rw [← u3]; exact u1)
      refine Or.inr ⟨z1, z2, z3, ?_, ?_, ?_⟩
      · rw [x.1 _ (by rw [z4]; exact c1.1)]
        exact z4
      · rw [x.1 _ (by rw [z5]; exact c2.1)]
        exact z5
      · rcases z6 with z6 | ⟨y1, y2, y3⟩
        · exact Or.inl z6
        · refine Or.inr ⟨y1, ?_, y3⟩
          rw [x.1 _ (by rw [y2]; exact y3.1)]
          exact y2
theorem fw_W {T : fT} {a b : sT} (ha : s_ok T a) (hb : s_ok T b) {s s' : mkT} {e : Nat} (hW : mW a b s) (he : e ∈ s.2) (h : fw a b s e = some s') : mW a b s' ∧ mx s s' ∧ fwd a b s' e := by
  obtain ⟨e1, e2⟩ := hW.2.2 e he
  have s5 := e_src ha e1
  have la : lal a (((a.1 5 e).toNat : Nat) : Int) := by rw [← s5.2.1]; exact s5.1
  have t5 := e_src hb (eal_n e2).1
  have lb : lal b (((b.1 5 (s.1 e).toNat).toNat : Nat) : Int) := by rw [← t5.2.1]; exact t5.1
  obtain ⟨a1, a2, -⟩ := l_edg ha la
  obtain ⟨b1, b2, -⟩ := l_edg hb lb
  unfold fw at h
  split at h
  case isFalse => cases h
  next h0 =>
  obtain ⟨s1, h1, h⟩ := Option.bind_eq_some_iff.mp h
  have p1 : mW a b s1 ∧ mx s s1 ∧ (a.1 0 (a.1 5 e).toNat = 0 → s1.1 (oth a (a.1 5 e).toNat e).toNat = oth b (b.1 5 (s.1 e).toNat).toNat (s.1 e)) ∧ (¬ a.1 0 (a.1 5 e).toNat = 0 → s1.1 (a.1 1 (a.1 5 e).toNat).toNat = b.1 1 (b.1 5 (s.1 e).toNat).toNat ∧ s1.1 (a.1 2 (a.1 5 e).toNat).toNat = b.1 2 (b.1 5 (s.1 e).toNat).toNat) := by
    unfold fw1 at h1
    split at h1
    · next k =>
      obtain ⟨w1, w2, w3⟩ := me_W hW (oth_al ha la _) (oth_al hb lb _) h1
      exact ⟨w1, w2, fun _ => w3, fun z => absurd k z⟩
    · next k =>
      obtain ⟨s0, g1, g2⟩ := Option.bind_eq_some_iff.mp h1
      obtain ⟨w1, w2, w3⟩ := me_W hW a1 b1 g1
      obtain ⟨v1, v2, v3⟩ := me_W w1 a2 b2 g2
      refine ⟨v1, mx_t w2 v2, fun z => absurd z k, fun _ => ⟨?_, v3⟩⟩
      rw [v2.1 _ (by rw [w3]; exact b1.1)]
      exact w3
  obtain ⟨W1, x1, p2, p3⟩ := p1
  have l6 := e_use ha e1
  have m6 := e_use hb (eal_n e2).1
  have fin : ∀ s' : mkT, mW a b s' → mx s1 s' → ((a.1 6 e = -1 ∧ b.1 6 (s.1 e).toNat = -1) ∨ (¬ a.1 6 e = -1 ∧ ¬ b.1 6 (s.1 e).toNat = -1 ∧ fw3 a b (s.1 e) e ∧ s'.1 (a.1 1 (a.1 6 e).toNat).toNat = b.1 1 (b.1 6 (s.1 e).toNat).toNat ∧ s'.1 (a.1 2 (a.1 6 e).toNat).toNat = b.1 2 (b.1 6 (s.1 e).toNat).toNat ∧ ((a.1 3 (a.1 6 e).toNat = -1 ∧ b.1 3 (b.1 6 (s.1 e).toNat).toNat = -1) ∨ (s_al a (a.1 3 (a.1 6 e).toNat) ∧ s'.1 (a.1 3 (a.1 6 e).toNat).toNat = b.1 3 (b.1 6 (s.1 e).toNat).toNat ∧ s_al b (b.1 3 (b.1 6 (s.1 e).toNat).toNat))))) → mW a b s' ∧ mx s s' ∧ fwd a b s' e := by
    intro s' W' x' hu
    have ee : s'.1 e = s.1 e := (mx_t x1 x').1 e e2.1
    refine ⟨W', mx_t x1 x', ?_⟩
    unfold fwd
    rw [ee]
    refine ⟨h0, fun z => ?_, fun z => ?_, hu⟩
    · rw [x'.1 _ (by rw [p2 z]; exact (oth_al hb lb _).1)]
      exact p2 z
    · obtain ⟨y1, y2⟩ := p3 z
      rw [x'.1 _ (by rw [y1]; exact b1.1), x'.1 _ (by rw [y2]; exact b2.1)]
      exact ⟨y1, y2⟩
  split at h
  · next z =>
    split at h
    · next y =>
      cases h
      refine fin _ W1 (mx_rf _) (Or.inl ?_)
      rcases l6 with l6 | ⟨l6, -⟩
      · exact ⟨l6, by omega⟩
      · have := l6.1
        omega
    · cases h
  · next z =>
    split at h
    · next y =>
      have l6 := l6.resolve_left (by omega)
      have m6 := m6.resolve_left (by omega)
      obtain ⟨c1, c2, -, c3, -⟩ := l_edg ha (l := (a.1 6 e).toNat) (by rw [← l6.2.2.1]; exact l6.1)
      obtain ⟨d1, d2, -, d3, -⟩ := l_edg hb (l := (b.1 6 (s.1 e).toNat).toNat) (by rw [← m6.2.2.1]; exact m6.1)
      unfold fw2 at h
      obtain ⟨s2, g1, h⟩ := Option.bind_eq_some_iff.mp h
      obtain ⟨s3, g2, g3⟩ := Option.bind_eq_some_iff.mp h
      obtain ⟨w1, w2, w3⟩ := me_W W1 c1 d1 g1
      obtain ⟨v1, v2, v3⟩ := me_W w1 c2 d2 g2
      obtain ⟨u1, u2, u3⟩ := me_X v1 (c3.imp id (fun z => z.1)) (d3.imp id (fun z => z.1)) g3
      refine fin _ u1 (mx_t w2 (mx_t v2 u2)) (Or.inr ⟨by omega, by omega, y, ?_, ?_, ?_⟩)
      · rw [(mx_t v2 u2).1 _ (by rw [w3]; exact d1.1)]
        exact w3
      · rw [u2.1 _ (by rw [v3]; exact d2.1)]
        exact v3
      · rcases u3 with u3 | ⟨u3, u4, u5⟩
        · exact Or.inl u3
        · exact Or.inr ⟨u3, u5, u4⟩
    · cases h
theorem mW_len {a b : sT} {s : mkT} (h : mW a b s) : s.2.length ≤ a.2.2.1 := by
  have := nd_le h.1 (A := List.range a.2.2.1) (fun e he => List.mem_range.mpr (h.2.2 e he).1.1)
  rw [List.length_range] at this
  exact this
theorem mh_W {T : fT} {a b : sT} (ha : s_ok T a) (hb : s_ok T b) : ∀ (n i : Nat) (s : mkT), a.2.2.1 ≤ n + i → mW a b s → (∀ j e, j < i → s.2[j]? = some e → fwd a b s e) → mh a b n s i = true → ∃ s', mx s s' ∧ mW a b s' ∧ ∀ e ∈ s'.2, fwd a b s' e := by
  intro n
  induction n with
  | zero =>
    intro i s hn hW hD _
    refine ⟨s, mx_rf s, hW, fun e he => ?_⟩
    obtain ⟨j, hj⟩ := List.getElem?_of_mem he
    have := (List.getElem?_eq_some_iff.mp hj).1
    have := mW_len hW
    exact hD j e (by omega) hj
  | succ n ih =>
    intro i s hn hW hD h
    unfold mh at h
    split at h
    · next z =>
      refine ⟨s, mx_rf s, hW, fun e he => ?_⟩
      obtain ⟨j, hj⟩ := List.getElem?_of_mem he
      have := (List.getElem?_eq_some_iff.mp hj).1
      have := List.getElem?_eq_none_iff.mp z
      exact hD j e (by omega) hj
    · next e z =>
      split at h
      · cases h
      · next s1 y =>
        have he := List.mem_of_getElem? z
        obtain ⟨W1, x1, v1⟩ := fw_W ha hb hW he y
        have hD' : ∀ j e', j < i + 1 → s1.2[j]? = some e' → fwd a b s1 e' := by
          intro j e' hj hj'
          obtain ⟨t, ht⟩ := x1.2
          have hi := (List.getElem?_eq_some_iff.mp z).1
          rw [ht] at hj'
          by_cases w : j = i
          · subst w
            rw [List.getElem?_append_left hi, z] at hj'
            cases hj'
            exact v1
          · rw [List.getElem?_append_left (by omega)] at hj'
            exact fwd_x hb (hW.2.2 e' (List.mem_of_getElem? hj')).2 (hD j e' (by omega) hj') x1
        obtain ⟨s', h1, h2⟩ := ih (i + 1) s1 (by omega) W1 hD' h
        exact ⟨s', mx_t x1 h1, h2⟩
theorem mi_W {T : fT} {a b : sT} (ha : s_ok T a) (hb : s_ok T b) : ∀ (n : Nat) (s : mkT), n ≤ a.2.2.2 → n ≤ b.2.2.2 → mi a b n = some s → mW a b s ∧ ∀ i, i < n → s.1 (a.1 8 i).toNat = b.1 8 i := by
  intro n
  induction n with
  | zero =>
    intro s _ _ h
    have h : some ((fun _ => -1, []) : mkT) = some s := h
    cases h
    exact ⟨⟨List.nodup_nil, fun e => ⟨fun z => (by cases z), fun z => absurd (show (0 : Int) ≤ -1 from z) (by decide)⟩, fun e he => (by cases he)⟩, fun i hi => absurd hi (Nat.not_lt_zero i)⟩
  | succ n ih =>
    intro s h1 h2 h
    obtain ⟨s0, g1, g2⟩ := Option.bind_eq_some_iff.mp h
    obtain ⟨W0, v0⟩ := ih s0 (by omega) (by omega) g1
    have d := (hb.2.2.2.1 n (by omega)).1
    obtain ⟨W1, x1, v1⟩ := me_W W0 (ha.2.2.2.1 n (by omega)).1 d g2
    refine ⟨W1, fun i hi => ?_⟩
    by_cases z : i = n
    · subst z
      exact v1
    · rw [x1.1 _ (by rw [v0 i (by omega)]; exact (hb.2.2.2.1 i (by omega)).1.1)]
      exact v0 i (by omega)
/-- the reference found a map -/
theorem mk_gm {T : fT} {a b : sT} (ha : s_ok T a) (hb : s_ok T b) (hc' : hc a) (h0 : 0 < a.2.2.2) (h1 : a.2.2.2 = b.2.2.2) {s : mkT} (hs : mi a b a.2.2.2 = some s) {n : Nat} (hn : a.2.2.1 ≤ n) (h : mh a b n s 0 = true) : ∃ φ ψ, gm a b φ ψ := by
  obtain ⟨W1, v1⟩ := mi_W ha hb a.2.2.2 s (Nat.le_refl _) (by omega) hs
  obtain ⟨s', x2, W2, D2⟩ := mh_W ha hb n 0 s (by omega) W1 (fun j e hj => absurd hj (Nat.not_lt_zero j)) h
  have d0 := (hb.2.2.2.1 0 (by omega)).1
  have v2 : s'.1 (a.1 8 0).toNat = b.1 8 0 := by rw [x2.1 _ (by rw [v1 0 h0]; exact d0.1)]; exact v1 0 h0
  have in0 : (a.1 8 0).toNat ∈ s'.2 := (W2.2.1 _).mpr (by rw [v2]; exact d0.1)
  have inQ : ∀ x : Nat, ∀ y : Int, s_al b y → s'.1 x = y → x ∈ s'.2 := fun x y hy e => (W2.2.1 x).mpr (by rw [e]; exact hy.1)
  -- all edges of a link are mapped
  let D : Nat → Prop := fun l => (a.1 1 l).toNat ∈ s'.2 ∧ (a.1 2 l).toNat ∈ s'.2 ∧ (¬ a.1 3 l = -1 → (a.1 3 l).toNat ∈ s'.2)
  have dS : ∀ e ∈ s'.2, D (a.1 5 e).toNat := by
    intro e he
    obtain ⟨e1, e2⟩ := W2.2.2 e he
    have s5 := e_src ha e1
    have t5 := e_src hb (eal_n e2).1
    have la : lal a (((a.1 5 e).toNat : Nat) : Int) := by rw [← s5.2.1]; exact s5.1
    have lb : lal b (((b.1 5 (s'.1 e).toNat).toNat : Nat) : Int) := by rw [← t5.2.1]; exact t5.1
    obtain ⟨f0, f1, f2, -⟩ := D2 e he
    obtain ⟨a1, a2, a12, a3, -⟩ := l_edg ha la
    obtain ⟨b1, b2, -⟩ := l_edg hb lb
    by_cases k : a.1 0 (a.1 5 e).toNat = 0
    · have o := inQ _ _ (oth_al hb lb _) (f1 k)
      have n3 : a.1 3 (a.1 5 e).toNat = -1 := by
        rcases a3 with a3 | ⟨-, a3⟩
        · exact a3
        · omega
      unfold oth at o
      rcases s5.2.2.1 k with z | z
      · rw [if_pos z] at o
        refine ⟨?_, o, fun y => absurd n3 y⟩
        rw [z]
        exact he
      · rw [if_neg (by rw [← z]; exact a12)] at o
        refine ⟨o, ?_, fun y => absurd n3 y⟩
        rw [z]
        exact he
    · obtain ⟨y1, y2⟩ := f2 k
      obtain ⟨k12, z⟩ := s5.2.2.2 (by have := s5.1.2.2; omega)
      refine ⟨inQ _ _ b1 y1, inQ _ _ b2 y2, fun _ => ?_⟩
      rw [z]
      exact he
  have dU : ∀ e ∈ s'.2, ¬ a.1 6 e = -1 → D (a.1 6 e).toNat := by
    intro e he hu
    obtain ⟨e1, e2⟩ := W2.2.2 e he
    rcases (D2 e he).2.2.2 with z | ⟨z1, z2, z3, z4, z5, z6⟩
    · exact absurd z.1 hu
    · obtain ⟨u1, u2, u3, -⟩ := (e_use hb (eal_n e2).1).resolve_left z2
      obtain ⟨c1, c2, -⟩ := l_edg hb (l := (b.1 6 (s'.1 e).toNat).toNat) (by rw [← u3]; exact u1)
      refine ⟨inQ _ _ c1 z4, inQ _ _ c2 z5, fun y => ?_⟩
      rcases z6 with z6 | ⟨y1, y2, y3⟩
      · exact absurd z6.1 y
      · exact inQ _ _ y3 y2
  have ofD : ∀ e, eal a e → D (a.1 5 e).toNat → e ∈ s'.2 := by
    intro e he hD
    have s5 := e_src ha he
    by_cases k : a.1 0 (a.1 5 e).toNat = 0
    · rcases s5.2.2.1 k with z | z
      · have := hD.1
        rw [z] at this
        exact this
      · have := hD.2.1
        rw [z] at this
        exact this
    · obtain ⟨k12, z⟩ := s5.2.2.2 (by have := s5.1.2.2; omega)
      have := hD.2.2 (by rw [z]; omega)
      rw [z] at this
      exact this
  have all : ∀ l : Nat, lal a (l : Int) → D l := by
    have e5 := e_src ha (W2.2.2 _ in0).1
    refine hc_all ha hc' (D := D) (fun e he u v hu hv => ?_) (x := (a.1 5 (a.1 8 0).toNat).toNat) (by rw [← e5.2.1]; exact e5.1) (dS _ in0)
    have eu : (a.1 5 e).toNat = u := by omega
    have ev : (a.1 6 e).toNat = v := by omega
    have hv1 : ¬ a.1 6 e = -1 := by omega
    constructor
    · intro z
      have ein := ofD e he (by rw [eu]; exact z)
      have := dU e ein hv1
      rw [ev] at this
      exact this
    · intro z
      have ein : e ∈ s'.2 := by
        obtain ⟨-, -, -, u4⟩ := (e_use ha he).resolve_left hv1
        rw [ev] at u4
        rcases u4 with y | y
        · have := z.1
          rw [y] at this
          exact this
        · have := z.2.1
          rw [y] at this
          exact this
      have := dS e ein
      rw [eu] at this
      exact this
  have allE : ∀ e, eal a e → e ∈ s'.2 := fun e he => ofD e he (all _ (by have := e_src ha he; rw [← this.2.1]; exact this.1))
  have tn : ∀ e, eal a e → s'.1 e = ((s'.1 e).toNat : Int) := fun e he => by have := (W2.2.2 e (allE e he)).2.1; omega
  have bal : ∀ e, eal a e → eal b (s'.1 e).toNat := fun e he => (eal_n (W2.2.2 e (allE e he)).2).1
  -- which link goes to which
  let ψ : Nat → Nat := fun l => if a.1 0 l = 0 then (b.1 5 (s'.1 (a.1 1 l).toNat).toNat).toNat else (b.1 6 (s'.1 (a.1 1 l).toNat).toNat).toNat
  have bU : ∀ {m : Nat}, lal b (m : Int) → 1 ≤ b.1 0 m → b.1 6 (b.1 1 m).toNat = (m : Int) := fun {m} hm hk => ((hb.2.1 m (by have := hm.2.1; omega)).2.2.1 hk).2.2.2.1
  have srcK : ∀ e, eal a e → b.1 5 (s'.1 e).toNat = (ψ (a.1 5 e).toNat : Int) := by
    intro e he
    have s5 := e_src ha he
    have t5 := e_src hb (bal e he)
    have lb : lal b (((b.1 5 (s'.1 e).toNat).toNat : Nat) : Int) := by rw [← t5.2.1]; exact t5.1
    obtain ⟨f0, f1, f2, -⟩ := D2 e (allE e he)
    have la : lal a (((a.1 5 e).toNat : Nat) : Int) := by rw [← s5.2.1]; exact s5.1
    obtain ⟨a1, a2, a12, -⟩ := l_edg ha la
    by_cases k : a.1 0 (a.1 5 e).toNat = 0
    · have kb : b.1 0 (b.1 5 (s'.1 e).toNat).toNat = 0 := by rw [← f0.2.2]; exact k
      obtain ⟨c1, c2, -, c4, c5, -⟩ := (hb.2.1 (b.1 5 (s'.1 e).toNat).toNat (by have := lb.2.1; omega)).2.1 kb
      show _ = ((if a.1 0 (a.1 5 e).toNat = 0 then (b.1 5 (s'.1 (a.1 1 (a.1 5 e).toNat).toNat).toNat).toNat else _ : Nat) : Int)
      rw [if_pos k]
      rcases s5.2.2.1 k with z | z
      · rw [z]
        exact t5.2.1
      · have o := f1 k
        unfold oth at o
        rw [if_neg (by rw [← z]; exact a12)] at o
        rw [o]
        split
        · rw [c5]
          exact t5.2.1
        · rw [c4]
          exact t5.2.1
    · have k1 : 1 ≤ b.1 0 (b.1 5 (s'.1 e).toNat).toNat := by rw [← f0.2.2]; have := s5.1.2.2; omega
      show _ = ((if a.1 0 (a.1 5 e).toNat = 0 then _ else (b.1 6 (s'.1 (a.1 1 (a.1 5 e).toNat).toNat).toNat).toNat : Nat) : Int)
      rw [if_neg k, (f2 k).1, bU lb k1]
      exact t5.2.1
  have useK : ∀ e, eal a e → ∀ l : Nat, a.1 6 e = (l : Int) → b.1 6 (s'.1 e).toNat = (ψ l : Int) ∧ lal b (b.1 6 (s'.1 e).toNat) := by
    intro e he l hl
    obtain ⟨u1, u2, u3, -⟩ := (e_use ha he).resolve_left (by omega)
    have el : (a.1 6 e).toNat = l := by omega
    rcases (D2 e (allE e he)).2.2.2 with z | ⟨z1, z2, z3, z4, z5, z6⟩
    · omega
    · obtain ⟨w1, w2, w3, -⟩ := (e_use hb (bal e he)).resolve_left z2
      refine ⟨?_, w1⟩
      have k1 : 1 ≤ b.1 0 (b.1 6 (s'.1 e).toNat).toNat := w2
      have := bU (m := (b.1 6 (s'.1 e).toNat).toNat) (by rw [← w3]; exact w1) k1
      show _ = ((if a.1 0 l = 0 then _ else (b.1 6 (s'.1 (a.1 1 l).toNat).toNat).toNat : Nat) : Int)
      rw [el] at z4 u2
      rw [if_neg (by omega), z4, this]
      exact w3
  refine ⟨fun e => (s'.1 e).toNat, ψ, fun e he => ?_, fun l hl => ?_, ?_⟩
  · obtain ⟨w1, w2⟩ := W2.2.2 e (allE e he)
    obtain ⟨f0, -, -, f3⟩ := D2 e (allE e he)
    refine ⟨by show s_al b ((s'.1 e).toNat : Int); rw [← tn e he]; exact w2, f0.1.symm, f0.2.1.symm, srcK e he, fun z => ?_, fun l hl => (useK e he l hl).1⟩
    rcases f3 with y | y
    · exact y.2
    · exact absurd z y.1
  · obtain ⟨a1, a2, a12, a3, a4⟩ := l_edg ha hl
    have t1 := tn _ (eal_n a1).1
    have t2 := tn _ (eal_n a2).1
    have l9 : l < a.2.1 := by have := hl.2.1; omega
    by_cases k : a.1 0 l = 0
    · obtain ⟨-, -, -, p4, p5, -⟩ := (ha.2.1 l l9).2.1 k
      have e1 := (eal_n a1).1
      have t5 := e_src hb (bal _ e1)
      have sk := srcK _ e1
      rw [p4, show ((l : Int)).toNat = l from rfl] at sk
      have lb : lal b (ψ l : Int) := by rw [← sk]; exact t5.1
      obtain ⟨f0, f1, -, -⟩ := D2 _ (allE _ e1)
      have ek : (b.1 5 (s'.1 (a.1 1 l).toNat).toNat).toNat = ψ l := by rw [sk]; rfl
      unfold fw0 at f0
      rw [p4, ek, show ((l : Int)).toNat = l from rfl] at f0 f1
      have o := f1 k
      unfold oth at o
      rw [if_pos (eal_n a1).2.symm] at o
      have t53 := t5.2.2.1
      rw [ek, ← t1] at t53
      obtain ⟨-, -, b12, -⟩ := l_edg hb lb
      refine ⟨lb, f0.2.2.symm, fun _ => ?_, fun z => by omega, fun z => by omega⟩
      show (((s'.1 (a.1 1 l).toNat).toNat : Int) = _ ∧ ((s'.1 (a.1 2 l).toNat).toNat : Int) = _) ∨ (((s'.1 (a.1 1 l).toNat).toNat : Int) = _ ∧ ((s'.1 (a.1 2 l).toNat).toNat : Int) = _)
      rw [← t1, ← t2]
      rcases t53 (by rw [← f0.2.2]; exact k) with y | y
      · rw [if_pos y] at o
        exact Or.inl ⟨y.symm, o⟩
      · rw [if_neg (by rw [← y]; exact b12)] at o
        exact Or.inr ⟨y.symm, o⟩
    · have k1 : 1 ≤ a.1 0 l := by have : 0 ≤ a.1 0 l := hl.2.2; omega
      obtain ⟨-, -, -, p4, p5⟩ := (ha.2.1 l l9).2.2.1 k1
      have e1 := (eal_n a1).1
      obtain ⟨uk, ul⟩ := useK _ e1 l p4
      have lb : lal b (ψ l : Int) := by rw [← uk]; exact ul
      have ek : (b.1 6 (s'.1 (a.1 1 l).toNat).toNat).toNat = ψ l := by rw [uk]; rfl
      rcases (D2 _ (allE _ e1)).2.2.2 with z | ⟨z1, z2, z3, z4, z5, z6⟩
      · omega
      · unfold fw3 at z3
        rw [p4, ek, show ((l : Int)).toNat = l from rfl] at z3 z4 z5 z6
        refine ⟨lb, z3.1.symm, fun z => absurd z k, fun _ => ?_, fun z => ?_⟩
        · show ((s'.1 (a.1 1 l).toNat).toNat : Int) = _ ∧ ((s'.1 (a.1 2 l).toNat).toNat : Int) = _
          rw [← t1, ← t2]
          exact ⟨z4, z5⟩
        · have t3 := tn _ (eal_n (a4 z)).1
          show ((s'.1 (a.1 3 l).toNat).toNat : Int) = _
          rw [← t3]
          rcases z6 with z6 | z6
          · exact absurd z6.1 (al_ne (a4 z))
          · exact z6.2.1
  · show ((s'.1 (a.1 8 0).toNat).toNat : Int) = _
    rw [v2]
    have := d0.1
    omega
def mls (φ : Nat → Nat) (s : mkT) : Prop := ∀ e, 0 ≤ s.1 e → s.1 e = (φ e : Int)
theorem me_A {a b : sT} {φ ψ : Nat → Nat} (_ : gm a b φ ψ) {s : mkT} (hs : mls φ s) {e k : Int} (h : (e = -1 ∧ k = -1) ∨ (s_al a e ∧ k = (φ e.toNat : Int))) : ∃ s', me s e k = some s' ∧ mls φ s' := by
  unfold me
  rcases h with ⟨rfl, rfl⟩ | ⟨he, hk⟩
  · rw [if_pos (Or.inl (by decide)), if_pos rfl]
    exact ⟨s, rfl, hs⟩
  · have := he.1
    rw [if_neg (by omega)]
    by_cases z : 0 ≤ s.1 e.toNat
    · rw [if_pos z, if_pos (by rw [hk]; exact hs _ z)]
      exact ⟨s, rfl, hs⟩
    · rw [if_neg z]
      refine ⟨_, rfl, fun x hx => ?_⟩
      by_cases w : x = e.toNat
      · subst w
        show sn_up s.1 e.toNat k e.toNat = _
        rw [sn_up_at]
        exact hk
      · have hx : 0 ≤ sn_up s.1 e.toNat k x := hx
        rw [sn_up_ne _ w] at hx
        show sn_up s.1 e.toNat k x = _
        rw [sn_up_ne _ w]
        exact hs x hx
theorem oth_A {T : fT} {a b : sT} (ha : s_ok T a) (hb : s_ok T b) {φ ψ : Nat → Nat} (g : gm a b φ ψ) {e : Nat} (he : eal a e) (k : a.1 0 (a.1 5 e).toNat = 0) : oth b (ψ (a.1 5 e).toNat) (φ e : Int) = (φ (oth a (a.1 5 e).toNat (e : Int)).toNat : Int) := by
  have s5 := e_src ha he
  have la : lal a (((a.1 5 e).toNat : Nat) : Int) := by rw [← s5.2.1]; exact s5.1
  obtain ⟨m1, m2, m3, -⟩ := g.2.1 _ la
  obtain ⟨-, -, a12, -⟩ := l_edg ha la
  obtain ⟨-, -, b12, -⟩ := l_edg hb m1
  unfold oth
  rcases s5.2.2.1 k with z | z
  · rw [if_pos z]
    rcases m3 k with ⟨y1, y2⟩ | ⟨y1, y2⟩
    · rw [z, show ((e : Int)).toNat = e from rfl] at y1
      rw [if_pos y1.symm]
      exact y2.symm
    · rw [z, show ((e : Int)).toNat = e from rfl] at y1
      rw [if_neg (by rw [y1]; exact b12)]
      exact y2.symm
  · have na : ¬ a.1 1 (a.1 5 e).toNat = (e : Int) := by rw [← z]; exact a12
    rw [if_neg na]
    rcases m3 k with ⟨y1, y2⟩ | ⟨y1, y2⟩
    · rw [z, show ((e : Int)).toNat = e from rfl] at y2
      have nb : ¬ b.1 1 (ψ (a.1 5 e).toNat) = (φ e : Int) := by rw [y2]; exact b12
      rw [if_neg nb]
      exact y1.symm
    · rw [z, show ((e : Int)).toNat = e from rfl] at y2
      rw [if_pos y2.symm]
      exact y1.symm
theorem fw_A {T : fT} {a b : sT} (ha : s_ok T a) (hb : s_ok T b) {φ ψ : Nat → Nat} (g : gm a b φ ψ) {s : mkT} (hs : mls φ s) {e : Nat} (he : eal a e) (hz : 0 ≤ s.1 e) : ∃ s', fw a b s e = some s' ∧ mls φ s' := by
  obtain ⟨g1, g2, g3, g4, g5, g6⟩ := g.1 e he
  have ee := hs e hz
  have s5 := e_src ha he
  have la : lal a (((a.1 5 e).toNat : Nat) : Int) := by rw [← s5.2.1]; exact s5.1
  obtain ⟨m1, m2, m3, m4, -⟩ := g.2.1 _ la
  obtain ⟨a1, a2, a12, -⟩ := l_edg ha la
  have tk : (((φ e : Nat) : Int)).toNat = φ e := rfl
  have t5 : (b.1 5 (φ e)).toNat = ψ (a.1 5 e).toNat := by rw [g4]; rfl
  have p1 : ∃ s1, fw1 a b s e = some s1 ∧ mls φ s1 := by
    unfold fw1
    rw [ee, tk, t5]
    by_cases k : a.1 0 (a.1 5 e).toNat = 0
    · rw [if_pos k]
      exact me_A g hs (Or.inr ⟨oth_al ha la _, oth_A ha hb g he k⟩)
    · rw [if_neg k]
      have k1 : 1 ≤ a.1 0 (a.1 5 e).toNat := by have := s5.1.2.2; omega
      obtain ⟨s1, h1, r1⟩ := me_A g hs (Or.inr ⟨a1, (m4 k1).1.symm⟩)
      rw [h1, Option.bind_some]
      exact me_A g r1 (Or.inr ⟨a2, (m4 k1).2.symm⟩)
  obtain ⟨s1, h1, r1⟩ := p1
  unfold fw
  rw [if_pos (show fw0 a b (s.1 e) e by unfold fw0; rw [ee, tk, t5]; exact ⟨g2.symm, g3.symm, m2.symm⟩), h1, Option.bind_some, ee, tk]
  rcases e_use ha he with z | ⟨z1, z2, z3, z4⟩
  · rw [if_pos (Or.inl (by omega)), if_pos (by rw [g5 z]; exact z)]
    exact ⟨s1, rfl, r1⟩
  · have g6 := g6 _ z3
    have lu : lal a (((a.1 6 e).toNat : Nat) : Int) := by rw [← z3]; exact z1
    obtain ⟨n1, n2, -, n4, n5⟩ := g.2.1 _ lu
    obtain ⟨c1, c2, c12, c3, -⟩ := l_edg ha lu
    obtain ⟨-, -, d12, d3, -⟩ := l_edg hb n1
    have q1 := (n4 z2).1
    have q2 := (n4 z2).2
    have t6 : (b.1 6 (φ e)).toNat = ψ (a.1 6 e).toNat := by rw [g6]; rfl
    have z10 := z1.1
    rw [if_neg (by omega)]
    have h3 : fw3 a b (φ e : Int) e := by
      unfold fw3
      rw [tk, t6]
      refine ⟨n2.symm, ?_⟩
      rcases z4 with y | y
      · refine ⟨fun _ => ?_, fun _ => y⟩
        rw [← q1, y]
        rfl
      · refine ⟨fun w => absurd (w.trans y.symm) c12, fun w => ?_⟩
        rw [y, show ((e : Int)).toNat = e from rfl] at q2
        exact absurd (w.trans q2) d12
    rw [if_pos h3]
    unfold fw2
    rw [t6]
    obtain ⟨s2, h2, r2⟩ := me_A g r1 (Or.inr ⟨c1, q1.symm⟩)
    obtain ⟨s3, h3, r3⟩ := me_A g r2 (Or.inr ⟨c2, q2.symm⟩)
    rw [h2, Option.bind_some, h3, Option.bind_some]
    refine me_A g r3 ?_
    rcases c3 with c3 | ⟨c3, k12⟩
    · refine Or.inl ⟨c3, ?_⟩
      rcases d3 with d3 | ⟨-, d3⟩
      · exact d3
      · rw [n2] at d3
        exact absurd c3 (al_ne ((l_edg ha lu).2.2.2.2 d3))
    · exact Or.inr ⟨c3, (n5 k12).symm⟩
theorem mh_A {T : fT} {a b : sT} (ha : s_ok T a) (hb : s_ok T b) {φ ψ : Nat → Nat} (g : gm a b φ ψ) : ∀ (n i : Nat) (s : mkT), mW a b s → mls φ s → mh a b n s i = true := by
  intro n
  induction n with
  | zero => intro i s _ _; rfl
  | succ n ih =>
    intro i s hW hs
    unfold mh
    split
    · rfl
    · next e z =>
      have he := List.mem_of_getElem? z
      obtain ⟨s1, h1, t1⟩ := fw_A ha hb g hs (hW.2.2 e he).1 ((hW.2.1 e).mp he)
      rw [h1]
      exact ih (i + 1) s1 (fw_W ha hb hW he h1).1 t1
theorem gm_mk {T : fT} {a b : sT} (ha : s_ok T a) (hb : s_ok T b) (h1 : a.2.2.2 = b.2.2.2) {φ ψ : Nat → Nat} (g : gm a b φ ψ) : ∃ s, mi a b a.2.2.2 = some s ∧ ∀ n, mh a b n s 0 = true := by
  have key : ∀ n, n ≤ a.2.2.2 → ∃ s, mi a b n = some s ∧ mls φ s := by
    intro n
    induction n with
    | zero => intro _; exact ⟨_, rfl, fun e z => absurd (show (0 : Int) ≤ -1 from z) (by decide)⟩
    | succ n ih =>
      intro hn
      obtain ⟨s, hs, r⟩ := ih (by omega)
      obtain ⟨c1, c2⟩ := ha.2.2.2.1 n (by omega)
      obtain ⟨g1, -, g3, -⟩ := g.1 _ (eal_n c1).1
      show ∃ s', (mi a b n).bind (fun s => me s (a.1 8 n) (b.1 8 n)) = some s' ∧ _
      rw [hs, Option.bind_some]
      refine me_A g r (Or.inr ⟨c1, ?_⟩)
      have w := ((hb.2.2.1 _ (eal_n g1).1.1).2.2.2.2 g1.2.2).2.2.2.2 (by
        show 0 ≤ b.1 7 (φ (a.1 8 n).toNat)
        rw [g3, c2]
        omega)
      have w := w.2
      have e : ((φ (a.1 8 n).toNat : Nat) : Int).toNat = φ (a.1 8 n).toNat := rfl
      rw [e, g3, c2, show ((n : Int)).toNat = n from rfl] at w
      exact w
  obtain ⟨s, hs, r⟩ := key a.2.2.2 (Nat.le_refl _)
  exact ⟨s, hs, fun n => mh_A ha hb g n 0 s (mi_W ha hb _ s (Nat.le_refl _) (by omega) hs).1 r⟩
