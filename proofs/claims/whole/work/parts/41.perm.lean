/-! Class and reference join the same edges of a switching, in another order: so they judge alike. -/
def ge_R (kd lf rt ty to : Nat → Int) (s : Int) (n : Nat) : List Nat := match n with
  | 0 => []
  | n + 1 => ge_R kd lf rt ty to s n ++ (if 0 ≤ ty n ∧ 0 ≤ to n ∧ gr_b kd lf rt to s n = true then [n] else [])
theorem ge_R_s (kd lf rt ty to : Nat → Int) (s : Int) (n : Nat) : ge_R kd lf rt ty to s (n + 1) = ge_R kd lf rt ty to s n ++ (if 0 ≤ ty n ∧ 0 ≤ to n ∧ gr_b kd lf rt to s n = true then [n] else []) := rfl
theorem ge_R_in (kd lf rt ty to : Nat → Int) (s : Int) (n : Nat) : ∀ e, e ∈ ge_R kd lf rt ty to s n ↔ e < n ∧ 0 ≤ ty e ∧ 0 ≤ to e ∧ gr_b kd lf rt to s e = true := by
  induction n with
  | zero => intro e; simp [ge_R]
  | succ n ih =>
    intro e
    rw [ge_R_s, List.mem_append, ih]
    by_cases h : 0 ≤ ty n ∧ 0 ≤ to n ∧ gr_b kd lf rt to s n = true
    · rw [if_pos h, List.mem_singleton]
      constructor
      · rintro (h1 | rfl)
        · exact ⟨by omega, h1.2⟩
        · exact ⟨by omega, h⟩
      · intro h1
        by_cases e1 : e = n
        · exact Or.inr e1
        · exact Or.inl ⟨by omega, h1.2⟩
    · rw [if_neg h]
      constructor
      · rintro (h1 | h1)
        · exact ⟨by omega, h1.2⟩
        · cases h1
      · intro h1
        refine Or.inl ⟨?_, h1.2⟩
        by_cases e1 : e = n
        · subst e1; exact absurd h1.2 h
        · omega
theorem ge_R_nd (kd lf rt ty to : Nat → Int) (s : Int) (n : Nat) : (ge_R kd lf rt ty to s n).Nodup := by
  induction n with
  | zero => exact List.nodup_nil
  | succ n ih =>
    rw [ge_R_s]
    split
    · rw [List.nodup_append]
      refine ⟨ih, by simp, fun a ha b hb => ?_⟩
      rw [List.mem_singleton] at hb
      have := ((ge_R_in kd lf rt ty to s n a).mp ha).1
      omega
    · rw [List.append_nil]; exact ih
theorem gr_E_map (kd lf rt ty fr to : Nat → Int) (s : Int) (n : Nat) : gr_E kd lf rt ty fr to s n = (ge_R kd lf rt ty to s n).map (fun e => ((fr e).toNat, (to e).toNat)) := by
  induction n with
  | zero => rfl
  | succ n ih =>
    rw [gr_E_s, ge_R_s, List.map_append, ih]
    split <;> rfl
/-- premises and their links fit each other -/
def ws_1 (kd lf rt ty to : Nat → Int) (nl ne : Nat) : Prop := ∀ l : Nat, l < nl → 1 ≤ kd l → (0 ≤ lf l ∧ lf l < (ne : Int) ∧ 0 ≤ ty (lf l).toNat ∧ to (lf l).toNat = (l : Int)) ∧ (0 ≤ rt l ∧ rt l < (ne : Int) ∧ 0 ≤ ty (rt l).toNat ∧ to (rt l).toNat = (l : Int)) ∧ lf l ≠ rt l
def ws_2 (kd lf rt ty to : Nat → Int) (nl ne : Nat) : Prop := ∀ e : Nat, e < ne → 0 ≤ ty e → 0 ≤ to e → to e < (nl : Int) ∧ (1 ≤ kd (to e).toNat ∧ kd (to e).toNat ≤ 3) ∧ (lf (to e).toNat = (e : Int) ∨ rt (to e).toNat = (e : Int))
def cb_R (kd lf rt : Nat → Int) (n : Nat) : List Nat := match n with
  | 0 => []
  | n + 1 => cb_R kd lf rt n ++ (if kd n = 1 ∨ kd n = 3 then [(lf n).toNat, (rt n).toNat] else [])
theorem cb_R_s (kd lf rt : Nat → Int) (n : Nat) : cb_R kd lf rt (n + 1) = cb_R kd lf rt n ++ (if kd n = 1 ∨ kd n = 3 then [(lf n).toNat, (rt n).toNat] else []) := rfl
theorem cb_R_in (kd lf rt : Nat → Int) (n : Nat) : ∀ e, e ∈ cb_R kd lf rt n ↔ ∃ l, l < n ∧ (kd l = 1 ∨ kd l = 3) ∧ (e = (lf l).toNat ∨ e = (rt l).toNat) := by
  induction n with
  | zero => intro e; simp [cb_R]
  | succ n ih =>
    intro e
    rw [cb_R_s, List.mem_append, ih]
    constructor
    · rintro (⟨l, h1, h2⟩ | h)
      · exact ⟨l, by omega, h2⟩
      · split at h
        · next hk =>
          simp only [List.mem_cons, List.not_mem_nil, or_false] at h
          exact ⟨n, by omega, hk, h⟩
        · cases h
    · rintro ⟨l, h1, h2, h3⟩
      by_cases e1 : l = n
      · subst e1
        refine Or.inr ?_
        rw [if_pos h2]
        simp only [List.mem_cons, List.not_mem_nil, or_false]
        exact h3
      · exact Or.inl ⟨l, by omega, h2, h3⟩
section PW
variable {kd lf rt ty to fr : Nat → Int} {nl ne : Nat}
theorem cb_R_nd (h1 : ws_1 kd lf rt ty to nl ne) : ∀ n, n ≤ nl → (cb_R kd lf rt n).Nodup := by
  intro n
  induction n with
  | zero => intro _; exact List.nodup_nil
  | succ n ih =>
    intro hn
    rw [cb_R_s]
    split
    · next hk =>
      obtain ⟨⟨a1, a2, a3, a4⟩, ⟨b1, b2, b3, b4⟩, c⟩ := h1 n (by omega) (by omega)
      rw [List.nodup_append]
      refine ⟨ih (by omega), ?_, fun x hx y hy => ?_⟩
      · simp only [List.nodup_cons, List.mem_singleton, List.not_mem_nil, not_false_eq_true, List.nodup_nil, and_true]
        intro z; apply c; omega
      · obtain ⟨l, hl, hkl, hx⟩ := (cb_R_in kd lf rt n x).mp hx
        obtain ⟨⟨p1, p2, p3, p4⟩, ⟨q1, q2, q3, q4⟩, -⟩ := h1 l (by omega) (by omega)
        simp only [List.mem_cons, List.not_mem_nil, or_false] at hy
        rintro rfl
        have hxl : to x = (l : Int) := by rcases hx with rfl | rfl; exact p4; exact q4
        have hxn : to x = (n : Int) := by rcases hy with rfl | rfl; exact a4; exact b4
        omega
    · rw [List.append_nil]; exact ih (by omega)
theorem cb_R_map (h1 : ws_1 kd lf rt ty to nl ne) : ∀ n, n ≤ nl → cs_B kd lf rt fr n = (cb_R kd lf rt n).map (fun e => ((fr e).toNat, (to e).toNat)) := by
  intro n
  induction n with
  | zero => intro _; rfl
  | succ n ih =>
    intro hn
    rw [cs_B_s, cb_R_s, List.map_append, ih (by omega)]
    split
    · next hk =>
      obtain ⟨⟨a1, a2, a3, a4⟩, ⟨b1, b2, b3, b4⟩, c⟩ := h1 n (by omega) (by omega)
      simp only [List.map_cons, List.map_nil, a4, b4, Int.toNat_natCast]
    · rfl
theorem cs_pl_at (kd : Nat → Int) {l : Nat} (hk : kd l = 2) : ∀ n, l < n → (cs_pl kd n)[(cn_ct kd 2 l).toNat]? = some l := by
  intro n
  induction n with
  | zero => intro h; omega
  | succ n ih =>
    intro h
    rw [cs_pl_s]
    have hb := cn_ct_b kd 2 l
    have hlen := cs_pl_l kd n
    by_cases e : l = n
    · subst e
      rw [if_pos hk, List.getElem?_append_right (by omega), show (cn_ct kd 2 l).toNat - (cs_pl kd l).length = 0 by omega]
      rfl
    · have hi := ih (by omega)
      have hlt := (List.getElem?_eq_some_iff.mp hi).1
      rw [List.getElem?_append_left hlt]
      exact hi
theorem cs_pl_nd (kd : Nat → Int) (n : Nat) : (cs_pl kd n).Nodup := by
  induction n with
  | zero => exact List.nodup_nil
  | succ n ih =>
    rw [cs_pl_s]
    split
    · rw [List.nodup_append]
      refine ⟨ih, by simp, fun a ha b hb => ?_⟩
      rw [List.mem_singleton] at hb
      have := ((cs_pl_in kd n a).mp ha).1
      omega
    · rw [List.append_nil]; exact ih
theorem cs_pl_ix (kd : Nat → Int) {n k l : Nat} (h : (cs_pl kd n)[k]? = some l) : kd l = 2 ∧ l < n ∧ (cn_ct kd 2 l).toNat = k := by
  obtain ⟨h1, h2⟩ := (cs_pl_in kd n l).mp (List.mem_of_getElem? h)
  refine ⟨h2, h1, ?_⟩
  have h3 := cs_pl_at kd h2 n h1
  exact (List.getElem?_inj (List.getElem?_eq_some_iff.mp h3).1 (cs_pl_nd kd n)).mp (h3.trans h.symm)
end PW
/-- the edges, by number, that the class joins: d par links have chosen -/
def cq_R (σ : sn_M) (i : Nat) (s : Int) (d : Nat) : List Nat := match d with
  | 0 => cb_R (σ.1 10 i) (σ.1 11 i) (σ.1 12 i) (σ.1 9 i 9).toNat
  | d + 1 => cq_R σ i s d ++ [(cs_w σ i s ((cs_pars σ i).length - 1 - d) ((cs_pars σ i).getD ((cs_pars σ i).length - 1 - d) 0)).toNat]
theorem cq_R_s (σ : sn_M) (i : Nat) (s : Int) (d : Nat) : cq_R σ i s (d + 1) = cq_R σ i s d ++ [(cs_w σ i s ((cs_pars σ i).length - 1 - d) ((cs_pars σ i).getD ((cs_pars σ i).length - 1 - d) 0)).toNat] := rfl
theorem cs_w_to {σ : sn_M} {i ne : Nat} (h1 : ws_1 (σ.1 10 i) (σ.1 11 i) (σ.1 12 i) (σ.1 14 i) (σ.1 16 i) (σ.1 9 i 9).toNat ne) (s : Int) (k : Nat) {l : Nat} (hl : l < (σ.1 9 i 9).toNat) (hk : 1 ≤ σ.1 10 i l) :
    (0 ≤ cs_w σ i s k l ∧ cs_w σ i s k l < (ne : Int)) ∧ 0 ≤ σ.1 14 i (cs_w σ i s k l).toNat ∧ σ.1 16 i (cs_w σ i s k l).toNat = (l : Int) := by
  obtain ⟨⟨a1, a2, a3, a4⟩, ⟨b1, b2, b3, b4⟩, -⟩ := h1 l hl hk
  unfold cs_w
  split
  · exact ⟨⟨b1, b2⟩, b3, b4⟩
  · exact ⟨⟨a1, a2⟩, a3, a4⟩
theorem cq_R_in {σ : sn_M} {i : Nat} {s : Int} : ∀ d, d ≤ (cs_pars σ i).length → ∀ e, e ∈ cq_R σ i s d ↔ (e ∈ cb_R (σ.1 10 i) (σ.1 11 i) (σ.1 12 i) (σ.1 9 i 9).toNat ∨ ∃ k l, (cs_pars σ i).length - d ≤ k ∧ (cs_pars σ i)[k]? = some l ∧ e = (cs_w σ i s k l).toNat) := by
  intro d
  induction d with
  | zero =>
    intro _ e
    constructor
    · intro h; exact Or.inl h
    · rintro (h | ⟨k, l, h1, h2, -⟩)
      · exact h
      · have := (List.getElem?_eq_some_iff.mp h2).1; omega
  | succ d ih =>
    intro hd e
    rw [cq_R_s, List.mem_append, ih (by omega), List.mem_singleton]
    have hlt : (cs_pars σ i).length - 1 - d < (cs_pars σ i).length := by omega
    obtain ⟨l0, hl0⟩ : ∃ l, (cs_pars σ i)[(cs_pars σ i).length - 1 - d]? = some l := ⟨_, List.getElem?_eq_getElem hlt⟩
    have hg : (cs_pars σ i).getD ((cs_pars σ i).length - 1 - d) 0 = l0 := by rw [List.getD_eq_getElem?_getD, hl0]; rfl
    rw [hg]
    constructor
    · rintro ((h | ⟨k, l, h1, h2, h3⟩) | h)
      · exact Or.inl h
      · exact Or.inr ⟨k, l, by omega, h2, h3⟩
      · exact Or.inr ⟨_, l0, by omega, hl0, h⟩
    · rintro (h | ⟨k, l, h1, h2, h3⟩)
      · exact Or.inl (Or.inl h)
      · by_cases e1 : k = (cs_pars σ i).length - 1 - d
        · subst e1
          rw [hl0] at h2
          cases h2
          exact Or.inr h3
        · exact Or.inl (Or.inr ⟨k, l, by omega, h2, h3⟩)
section PQ
variable {σ : sn_M} {i ne : Nat} {s : Int}
theorem cq_R_nd (h1 : ws_1 (σ.1 10 i) (σ.1 11 i) (σ.1 12 i) (σ.1 14 i) (σ.1 16 i) (σ.1 9 i 9).toNat ne) : ∀ d, d ≤ (cs_pars σ i).length → (cq_R σ i s d).Nodup := by
  intro d
  induction d with
  | zero => intro _; exact cb_R_nd h1 _ (Nat.le_refl _)
  | succ d ih =>
    intro hd
    rw [cq_R_s, List.nodup_append]
    have hlt : (cs_pars σ i).length - 1 - d < (cs_pars σ i).length := by omega
    obtain ⟨l0, hl0⟩ : ∃ l, (cs_pars σ i)[(cs_pars σ i).length - 1 - d]? = some l := ⟨_, List.getElem?_eq_getElem hlt⟩
    have hg : (cs_pars σ i).getD ((cs_pars σ i).length - 1 - d) 0 = l0 := by rw [List.getD_eq_getElem?_getD, hl0]; rfl
    rw [hg]
    obtain ⟨k2, kl, -⟩ := cs_pl_ix (σ.1 10 i) hl0
    have hw := (cs_w_to h1 s ((cs_pars σ i).length - 1 - d) kl (by omega)).2.2
    refine ⟨ih (by omega), by simp, fun x hx y hy => ?_⟩
    rw [List.mem_singleton] at hy
    rintro rfl
    rw [← hy] at hw
    rcases (cq_R_in d (by omega) x).mp hx with hx | ⟨k, l, a1, a2, a3⟩
    · obtain ⟨l, hl, hkl, hx⟩ := (cb_R_in _ _ _ _ x).mp hx
      obtain ⟨⟨p1, p2, p3, p4⟩, ⟨q1, q2, q3, q4⟩, -⟩ := h1 l hl (by omega)
      have hxl : σ.1 16 i x = (l : Int) := by rcases hx with rfl | rfl; exact p4; exact q4
      have e : l = l0 := by omega
      subst e
      omega
    · obtain ⟨b1, b2, b3⟩ := cs_pl_ix (σ.1 10 i) a2
      have hw2 := (cs_w_to h1 s k b2 (by omega)).2.2
      rw [← a3] at hw2
      have e : l = l0 := by omega
      subst e
      have : k = (cs_pars σ i).length - 1 - d := (List.getElem?_inj (List.getElem?_eq_some_iff.mp a2).1 (cs_pl_nd _ _)).mp (a2.trans hl0.symm)
      omega
theorem cq_R_map (h1 : ws_1 (σ.1 10 i) (σ.1 11 i) (σ.1 12 i) (σ.1 14 i) (σ.1 16 i) (σ.1 9 i 9).toNat ne) : ∀ d, d ≤ (cs_pars σ i).length → cs_Q σ i s d = (cq_R σ i s d).map (fun e => ((σ.1 15 i e).toNat, (σ.1 16 i e).toNat)) := by
  intro d
  induction d with
  | zero => intro _; exact cb_R_map h1 _ (Nat.le_refl _)
  | succ d ih =>
    intro hd
    rw [cs_Q_s, cq_R_s, List.map_append, ih (by omega)]
    have hlt : (cs_pars σ i).length - 1 - d < (cs_pars σ i).length := by omega
    obtain ⟨l0, hl0⟩ : ∃ l, (cs_pars σ i)[(cs_pars σ i).length - 1 - d]? = some l := ⟨_, List.getElem?_eq_getElem hlt⟩
    have hg : (cs_pars σ i).getD ((cs_pars σ i).length - 1 - d) 0 = l0 := by rw [List.getD_eq_getElem?_getD, hl0]; rfl
    rw [hg]
    obtain ⟨k2, kl, -⟩ := cs_pl_ix (σ.1 10 i) hl0
    have hw := (cs_w_to h1 s ((cs_pars σ i).length - 1 - d) kl (by omega)).2.2
    unfold cs_x
    simp only [List.map_cons, List.map_nil, hw, Int.toNat_natCast]
theorem cq_perm (h1 : ws_1 (σ.1 10 i) (σ.1 11 i) (σ.1 12 i) (σ.1 14 i) (σ.1 16 i) (σ.1 9 i 9).toNat ne) (h2 : ws_2 (σ.1 10 i) (σ.1 11 i) (σ.1 12 i) (σ.1 14 i) (σ.1 16 i) (σ.1 9 i 9).toNat ne) :
    (gr_E (σ.1 10 i) (σ.1 11 i) (σ.1 12 i) (σ.1 14 i) (σ.1 15 i) (σ.1 16 i) s ne).Perm (cs_Q σ i s (cs_pars σ i).length) := by
  rw [gr_E_map, cq_R_map h1 _ (Nat.le_refl _)]
  refine List.Perm.map _ ((List.perm_ext_iff_of_nodup (ge_R_nd _ _ _ _ _ _ _) (cq_R_nd h1 _ (Nat.le_refl _))).mpr (fun e => ?_))
  rw [ge_R_in, cq_R_in _ (Nat.le_refl _), cb_R_in]
  constructor
  · rintro ⟨he, hty, hto, hb⟩
    obtain ⟨w1, ⟨w2, w3⟩, w4⟩ := h2 e he hty hto
    have ht : (σ.1 16 i e).toNat < (σ.1 9 i 9).toNat := by omega
    by_cases hk : σ.1 10 i (σ.1 16 i e).toNat = 2
    · refine Or.inr ⟨_, _, Nat.sub_self _ ▸ Nat.zero_le _, cs_pl_at (σ.1 10 i) hk _ ht, ?_⟩
      unfold gr_b at hb
      rw [Bool.or_eq_true] at hb
      rcases hb with hb | hb
      · exact absurd hk (of_decide_eq_true hb)
      · have hb := of_decide_eq_true hb
        unfold cs_w
        omega
    · refine Or.inl ⟨(σ.1 16 i e).toNat, ht, by omega, ?_⟩
      omega
  · rintro (⟨l, hl, hk, he⟩ | ⟨k, l, -, hkl, he⟩)
    · obtain ⟨⟨a1, a2, a3, a4⟩, ⟨b1, b2, b3, b4⟩, -⟩ := h1 l hl (by omega)
      have hx : e < ne ∧ 0 ≤ σ.1 14 i e ∧ σ.1 16 i e = (l : Int) := by
        rcases he with rfl | rfl
        · exact ⟨by omega, a3, a4⟩
        · exact ⟨by omega, b3, b4⟩
      refine ⟨hx.1, hx.2.1, by omega, ?_⟩
      unfold gr_b
      rw [hx.2.2, Bool.or_eq_true]
      refine Or.inl (decide_eq_true ?_)
      show ¬ σ.1 10 i l = 2
      omega
    · obtain ⟨c1, c2, c3⟩ := cs_pl_ix (σ.1 10 i) hkl
      obtain ⟨⟨d1, d2⟩, d3, d4⟩ := cs_w_to h1 s k c2 (by omega)
      have ee : (e : Int) = cs_w σ i s k l := by omega
      rw [← he] at d3 d4
      refine ⟨by omega, d3, by omega, ?_⟩
      unfold gr_b
      rw [d4, Bool.or_eq_true]
      refine Or.inr (decide_eq_true ?_)
      rw [ee]
      show cs_w σ i s k l = if sn_and (s / 2 ^ (cn_ct (σ.1 10 i) 2 l).toNat) 1 = 1 then σ.1 12 i l else σ.1 11 i l
      rw [c3]
      rfl
end PQ
theorem gr_v_perm {E F : List (Nat × Nat)} (h : E.Perm F) (c : Int) : gr_v E c = gr_v F c := by
  unfold gr_v
  rw [(jn_perm h (fun x => x)).1, h.length_eq]
theorem jd_f_ext {g g' : Nat → Int} (x : Int) : ∀ n, (∀ s, s < n → g s = g' s) → jd_f g x n = jd_f g' x n := by
  intro n
  induction n with
  | zero => intro _; rfl
  | succ n ih =>
    intro h
    rw [jd_f_s, jd_f_s, h n (by omega), ih (fun s hs => h s (by omega))]
theorem cn_ct_ext {f g : Nat → Int} (k : Int) : ∀ n, (∀ l, l < n → f l = g l) → cn_ct f k n = cn_ct g k n := by
  intro n
  induction n with
  | zero => intro _; rfl
  | succ n ih =>
    intro h
    rw [cn_ct_s, cn_ct_s, h n (by omega), ih (fun l hl => h l (by omega))]
/-- the structure i of the class and the part b of the reference hold the same -/
def sr_ok (σ : sn_M) (i b : Nat) : Prop := σ.1 9 i 9 = σ.1 46 0 b ∧ σ.1 9 i 10 = σ.1 47 0 b ∧ σ.1 9 i 14 = σ.1 48 0 b ∧
  (∀ f l : Nat, f < 4 → (l : Int) < σ.1 9 i 9 → σ.1 (10 + f) i l = σ.1 (49 + f) 0 (60 * b + l)) ∧ (∀ f e : Nat, f < 4 → (e : Int) < σ.1 9 i 10 → σ.1 (14 + f) i e = σ.1 (53 + f) 0 (100 * b + e)) ∧ (∀ j : Nat, (j : Int) < σ.1 9 i 14 → σ.1 18 i j = σ.1 57 0 (100 * b + j)) ∧
  σ.1 9 i 11 = cn_ct (σ.1 10 i) (-1) (σ.1 9 i 9).toNat ∧ σ.1 9 i 12 = cn_ct (σ.1 10 i) 2 (σ.1 9 i 9).toNat ∧ σ.1 9 i 13 = cn_ct (σ.1 10 i) 3 (σ.1 9 i 9).toNat
theorem gr_E_ext {kd lf rt ty fr to kd' lf' rt' ty' fr' to' : Nat → Int} {nl : Nat} (s : Int) : ∀ n, (∀ l, l < nl → kd l = kd' l ∧ lf l = lf' l ∧ rt l = rt' l) → (∀ e, e < n → ty e = ty' e ∧ fr e = fr' e ∧ to e = to' e ∧ (0 ≤ to e → to e < (nl : Int))) → gr_E kd lf rt ty fr to s n = gr_E kd' lf' rt' ty' fr' to' s n := by
  intro n
  induction n with
  | zero => intro _ _; rfl
  | succ n ih =>
    intro hl he
    rw [gr_E_s, gr_E_s, ih hl (fun e h => he e (by omega))]
    obtain ⟨e1, e2, e3, e4⟩ := he n (by omega)
    congr 1
    by_cases ht : 0 ≤ to n
    · have hlt : (to n).toNat < nl := by have := e4 ht; omega
      obtain ⟨f1, f2, f3⟩ := hl _ hlt
      have hb : gr_b kd lf rt to s n = gr_b kd' lf' rt' to' s n := by
        unfold gr_b
        rw [← e3, f1, f2, f3, cn_ct_ext 2 (to n).toNat (fun l h => (hl l (by omega)).1)]
      rw [e1, e2, e3, hb]
    · rw [if_neg (fun z => ht z.2.1), if_neg (fun z => ht (by rw [e3]; exact z.2.1))]
section PV
variable {σ : sn_M} {i b : Nat}
theorem sr_g (hr : sr_ok σ i b) (h9 : 0 ≤ σ.1 9 i 9) (h10 : 0 ≤ σ.1 9 i 10) (h1 : ws_1 (σ.1 10 i) (σ.1 11 i) (σ.1 12 i) (σ.1 14 i) (σ.1 16 i) (σ.1 9 i 9).toNat (σ.1 9 i 10).toNat) (h2 : ws_2 (σ.1 10 i) (σ.1 11 i) (σ.1 12 i) (σ.1 14 i) (σ.1 16 i) (σ.1 9 i 9).toNat (σ.1 9 i 10).toNat) (h3 : ∀ e : Nat, (e : Int) < σ.1 9 i 10 → 0 ≤ σ.1 16 i e → σ.1 16 i e < σ.1 9 i 9) (s : Nat) : cs_g σ i s = md_g σ b s := by
  obtain ⟨r1, r2, r3, r4, r5, r6, r7, r8, r9⟩ := hr
  unfold cs_g md_g
  have hk : ∀ l, l < (σ.1 9 i 9).toNat → σ.1 10 i l = σ.1 49 0 (60 * b + l) := fun l hl => r4 0 l (by decide) (by omega)
  have e1 : gr_E (σ.1 10 i) (σ.1 11 i) (σ.1 12 i) (σ.1 14 i) (σ.1 15 i) (σ.1 16 i) (s : Int) (σ.1 9 i 10).toNat = md_E σ b (s : Int) (σ.1 47 0 b).toNat := by
    rw [← r2]
    exact gr_E_ext (nl := (σ.1 9 i 9).toNat) (s : Int) _ (fun l hl => ⟨hk l hl, r4 1 l (by decide) (by omega), r4 2 l (by decide) (by omega)⟩) (fun e he => ⟨r5 0 e (by decide) (by omega), r5 1 e (by decide) (by omega), r5 2 e (by decide) (by omega), fun z => by have := h3 e (by omega) z; omega⟩)
  have e2 : cn_ct (fun l => σ.1 49 0 (60 * b + l)) (-1) (σ.1 46 0 b).toNat = σ.1 9 i 11 := by
    rw [r7, ← r1]
    exact (cn_ct_ext (-1) _ (fun l hl => hk l hl)).symm
  rw [← e1, e2]
  exact (gr_v_perm (cq_perm h1 h2) _).symm
theorem sr_all (hr : sr_ok σ i b) (h9 : 0 ≤ σ.1 9 i 9) : cs_all σ i = md_all σ b := by
  obtain ⟨r1, r2, r3, r4, -⟩ := hr
  unfold cs_all md_all
  have hk : ∀ l, l < (σ.1 9 i 9).toNat → σ.1 10 i l = σ.1 49 0 (60 * b + l) := fun l hl => r4 0 l (by decide) (by omega)
  have e := cs_pl_l (σ.1 10 i) (σ.1 9 i 9).toNat
  rw [cn_ct_ext 2 _ hk, r1] at e
  have e2 : (cs_pars σ i).length = (cn_ct (fun l => σ.1 49 0 (60 * b + l)) 2 (σ.1 46 0 b).toNat).toNat := by
    unfold cs_pars
    rw [r1]
    omega
  rw [e2]
/-- class and reference give the same judgement and the same fault -/
theorem sr_judge (hr : sr_ok σ i b) (h9 : 0 ≤ σ.1 9 i 9) (h10 : 0 ≤ σ.1 9 i 10) (h1 : ws_1 (σ.1 10 i) (σ.1 11 i) (σ.1 12 i) (σ.1 14 i) (σ.1 16 i) (σ.1 9 i 9).toNat (σ.1 9 i 10).toNat) (h2 : ws_2 (σ.1 10 i) (σ.1 11 i) (σ.1 12 i) (σ.1 14 i) (σ.1 16 i) (σ.1 9 i 9).toNat (σ.1 9 i 10).toNat) (h3 : ∀ e : Nat, (e : Int) < σ.1 9 i 10 → 0 ≤ σ.1 16 i e → σ.1 16 i e < σ.1 9 i 9) : cs_v σ i = md_v σ b ∧ cs_fa σ i = md_fa σ b := by
  have hg : ∀ s, cs_g σ i s = md_g σ b s := sr_g hr h9 h10 h1 h2 h3
  have ha := sr_all hr h9
  have e1 := fun x => jd_f_ext (g := cs_g σ i) (g' := md_g σ b) x (cs_all σ i) (fun s _ => hg s)
  unfold cs_v md_v cs_fa md_fa
  rw [e1 1, e1 2, ha]
  exact ⟨rfl, rfl⟩
theorem sr_cp (hr : sr_ok σ i b) (h9 : 0 ≤ σ.1 9 i 9) (h3 : ∀ e : Nat, (e : Int) < σ.1 9 i 10 → -1 ≤ σ.1 14 i e ∧ -1 ≤ σ.1 16 i e ∧ -1 ≤ σ.1 17 i e) : cs_cp σ i ↔ md_cp σ b := by
  obtain ⟨r1, r2, r3, r4, r5, r6, r7, r8, r9⟩ := hr
  have hk : ∀ l, l < (σ.1 9 i 9).toNat → σ.1 10 i l = σ.1 49 0 (60 * b + l) := fun l hl => r4 0 l (by decide) (by omega)
  have e2 : cn_ct (fun l => σ.1 49 0 (60 * b + l)) (-1) (σ.1 46 0 b).toNat = σ.1 9 i 11 := by
    rw [r7, ← r1]
    exact (cn_ct_ext (-1) _ (fun l hl => hk l hl)).symm
  unfold cs_cp md_cp
  rw [e2, r2]
  have hf : ∀ e : Nat, (e : Int) < σ.1 47 0 b → (cs_f σ i (e : Int) ↔ md_f σ b (e : Int)) := by
    intro e he
    have he' : (e : Int) < σ.1 9 i 10 := by rw [r2]; exact he
    have a1 := r5 0 e (by decide) he'
    have a2 := r5 2 e (by decide) he'
    have a3 := r5 3 e (by decide) he'
    obtain ⟨b1, b2, b3⟩ := h3 e he'
    have a1 : σ.1 14 i e = σ.1 53 0 (100 * b + e) := a1
    have a2 : σ.1 16 i e = σ.1 55 0 (100 * b + e) := a2
    have a3 : σ.1 17 i e = σ.1 56 0 (100 * b + e) := a3
    show ((0 ≤ (e : Int) ∧ (e : Int) < σ.1 9 i 10 ∧ ¬ σ.1 14 i e = -1) ∧ σ.1 16 i e = -1 ∧ σ.1 17 i e = -1) ↔ ((0 ≤ (e : Int) ∧ (e : Int) < σ.1 47 0 b ∧ 0 ≤ σ.1 53 0 (100 * b + e)) ∧ σ.1 55 0 (100 * b + e) < 0 ∧ σ.1 56 0 (100 * b + e) < 0)
    rw [← a1, ← a2, ← a3]
    omega
  constructor
  · rintro ⟨h1, h2⟩
    exact ⟨h1, fun e he z => h2 e he ((hf e he).mpr z)⟩
  · rintro ⟨h1, h2⟩
    exact ⟨h1, fun e he z => h2 e he ((hf e he).mp z)⟩
end PV
