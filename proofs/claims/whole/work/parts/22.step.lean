/-! One step is sound. -/
def sn_al (ad : sn_A) (L : sn_Ls) : List (Nat × Value) := (List.range L.length).filterMap (fun i => match L[i]? with
  | some (some v) => some (i, sn_cv ad v)
  | _ => none)
theorem sn_al_in {ad : sn_A} {L : sn_Ls} {i : Nat} {v : sn_V} (h : L[i]? = some (some v)) : (i, sn_cv ad v) ∈ sn_al ad L := by
  unfold sn_al
  rw [List.mem_filterMap]
  refine ⟨i, List.mem_range.mpr (List.getElem?_eq_some_iff.mp h).1, ?_⟩
  rw [h]
theorem sn_al_of {ad : sn_A} {L : sn_Ls} {q : Nat × Value} (h : q ∈ sn_al ad L) : ∃ v, L[q.1]? = some (some v) ∧ q.2 = sn_cv ad v := by
  unfold sn_al at h
  rw [List.mem_filterMap] at h
  obtain ⟨i, -, h⟩ := h
  split at h
  · next v hv =>
    cases h
    exact ⟨v, hv, rfl⟩
  · cases h
def sn_Lo (ad : sn_A) (ls : Array Slot) (nL : Nat) (L : sn_Ls) : Prop := ls.size = nL ∧ L.length = nL ∧ lv_wf ls ∧ ∀ (i : Nat) (v : sn_V), L[i]? = some (some v) → sn_vo v ∧ ls[i]? = some (.val (sn_cv ad v))
theorem sn_Lo.has {ad : sn_A} {ls : Array Slot} {nL : Nat} {L : sn_Ls} (h : sn_Lo ad ls nL L) : lv_has ls nL (sn_al ad L) := by
  refine ⟨h.1, h.2.2.1, fun q hq => ?_⟩
  obtain ⟨v, h1, h2⟩ := sn_al_of hq
  rw [h2]
  exact (h.2.2.2 _ _ h1).2
theorem sn_kill_len (L : sn_Ls) (i : Nat) : (sn_kill L i).length = L.length := by
  unfold sn_kill
  split
  · rfl
  · split
    · rw [List.length_set]
    · rfl
theorem sn_kill_at {L : sn_Ls} {i j : Nat} {w : sn_V} (h : (sn_kill L i)[j]? = some (some w)) : L[j]? = some (some w) ∧ ∀ ad, ¬ (j + 1 = i ∧ (sn_cv ad w).category = 2) := by
  unfold sn_kill at h
  split at h
  · exact ⟨h, fun _ q => by omega⟩
  · next n =>
    split at h
    · next x hx =>
      rw [List.getElem?_set] at h
      split at h
      · split at h <;> cases h
      · exact ⟨h, fun _ q => by omega⟩
    · next hx =>
      refine ⟨h, fun ad q => ?_⟩
      have e : j = n := by omega
      subst e
      obtain ⟨-, q⟩ := q
      match w, h, q with
      | .inl _, _, q => cases q
      | .inr (.inl x), h, _ => exact hx x h
      | .inr (.inr _), _, q => cases q
theorem sn_Lo.s1 {ad : sn_A} {ls' : Array Slot} {nL i : Nat} {L : sn_Ls} {v : sn_V} (hlen : L.length = nL) (hvo : ∀ (j : Nat) (w : sn_V), L[j]? = some (some w) → sn_vo w) (hv : sn_vo v)
    (h : lv_has ls' nL ((i, sn_cv ad v) :: (sn_al ad L).filter (fun q => !(q.1 == i) && !(q.1 + 1 == i && q.2.category == 2)))) : sn_Lo ad ls' nL (sn_s1 L i v) := by
  refine ⟨h.1, by unfold sn_s1; rw [List.length_set, sn_kill_len]; exact hlen, h.2.1, fun j w hw => ?_⟩
  unfold sn_s1 at hw
  rw [List.getElem?_set] at hw
  split at hw
  · next e =>
    subst e
    split at hw
    · cases hw
      exact ⟨hv, h.2.2 _ List.mem_cons_self⟩
    · cases hw
  · next e =>
    obtain ⟨g1, g2⟩ := sn_kill_at hw
    refine ⟨hvo _ _ g1, h.2.2 (j, sn_cv ad w) (List.mem_cons_of_mem _ (List.mem_filter.mpr ⟨sn_al_in g1, ?_⟩))⟩
    have g3 := g2 ad
    simp only [Bool.and_eq_true, Bool.not_eq_true', beq_eq_false_iff_ne, Bool.and_eq_false_iff]
    refine ⟨fun q => e q.symm, ?_⟩
    by_cases hj : j + 1 = i
    · exact Or.inr (fun q => g3 ⟨hj, q⟩)
    · exact Or.inl hj
theorem sn_Lo.s2 {ad : sn_A} {ls' : Array Slot} {nL i : Nat} {L : sn_Ls} {v : sn_V} (hlen : L.length = nL) (hvo : ∀ (j : Nat) (w : sn_V), L[j]? = some (some w) → sn_vo w) (hv : sn_vo v)
    (h : lv_has ls' nL ((i, sn_cv ad v) :: (sn_al ad L).filter (fun q => !(q.1 == i) && (!(q.1 == i + 1) && !(q.1 + 1 == i && q.2.category == 2))))) : sn_Lo ad ls' nL (sn_s2 L i v) := by
  refine ⟨h.1, by unfold sn_s2; rw [List.length_set, List.length_set, sn_kill_len]; exact hlen, h.2.1, fun j w hw => ?_⟩
  unfold sn_s2 at hw
  rw [List.getElem?_set] at hw
  split at hw
  · split at hw <;> cases hw
  · next e0 =>
    rw [List.getElem?_set] at hw
    split at hw
    · next e =>
      subst e
      split at hw
      · cases hw
        exact ⟨hv, h.2.2 _ List.mem_cons_self⟩
      · cases hw
    · next e =>
      obtain ⟨g1, g2⟩ := sn_kill_at hw
      refine ⟨hvo _ _ g1, h.2.2 (j, sn_cv ad w) (List.mem_cons_of_mem _ (List.mem_filter.mpr ⟨sn_al_in g1, ?_⟩))⟩
      have g3 := g2 ad
      simp only [Bool.and_eq_true, Bool.not_eq_true', beq_eq_false_iff_ne, Bool.and_eq_false_iff]
      refine ⟨fun q => e q.symm, fun q => e0 q.symm, ?_⟩
      by_cases hj : j + 1 = i
      · exact Or.inr (fun q => g3 ⟨hj, q⟩)
      · exact Or.inl hj
theorem sn_vo_c {v : sn_V} {S : List sn_V} (hv : sn_vo v) (h : ∀ w ∈ S, sn_vo w) : ∀ w ∈ v :: S, sn_vo w := by
  intro w hw
  rcases List.mem_cons.mp hw with rfl | hw
  · exact hv
  · exact h w hw
def sn_Wd (D : va_G) (dA : Nat → ClassId) (ad : sn_A) (A : Nat → Prop) (H0 : Heap) (σ : sn_M) (H : Heap) (locs : List Loc) : Prop :=
  va_P D sn_cl (sn_wd dA ad σ) H ∧ va_D A (sn_wd dA ad σ) ∧ va_S A H0 H locs ∧ ∀ k i j, sn_R (σ.1 k i j)
section SNW
variable {p : Program} {l : Launch} {e : Env} {R : Room} {s : State} {m : MethodId} {args : Array Value} {below : List Frame} {meth : Method} {c : Code} {Q : State → Prop}
variable {cc : ByteArray} {nL : Nat} {own : String} {Ts : List Cond} {D : va_G} {dA : Nat → ClassId} {ad : sn_A} {A : Nat → Prop} {H0 : Heap}
def sn_G (p : Program) (l : Launch) (e : Env) (R : Room) (s : State) (m : MethodId) (args : Array Value) (below : List Frame) (meth : Method) (c : Code) (Q : State → Prop) (D : va_G) (dA : Nat → ClassId) (ad : sn_A) (A : Nat → Prop) (H0 : Heap) (nL : Nat) (pc : Nat) (L : sn_Ls) (S : List sn_V) (σ : sn_M) : Prop :=
  ∀ (H : Heap) (locs : List Loc) (ls : Array Slot), sn_Wd D dA ad A H0 σ H locs → sn_Lo ad ls nL L → (∀ v ∈ S, sn_vo v) → W p l e R s m args below meth c H locs 0 0 Q (F0 m pc ls (S.map (sn_cv ad)))
/-- a call's rule -/
def sn_CR (p : Program) (l : Launch) (e : Env) (R : Room) (s : State) (m : MethodId) (args : Array Value) (below : List Frame) (meth : Method) (c : Code) (Q : State → Prop) (D : va_G) (dA : Nat → ClassId) (ad : sn_A) (A : Nat → Prop) (H0 : Heap) (nL : Nat) (cc : ByteArray) (x n ci : Nat) (sp : sn_P) : Prop :=
  ∀ (pc : Nat) (ls : Array Slot) (as rest : List sn_V) (σ : sn_M) (H : Heap) (locs : List Loc) (po : Option sn_V → sn_M → Prop),
    ((decode cc pc = .ok (.invokevirtual x, 3) ∧ ∃ q t, as = .inr (.inr q) :: t ∧ sn_kc q.1 + 1 = ci) ∨ (decode cc pc = .ok (.invokestatic x, 3) ∧ ci = 0)) →
    as.length = n → sp as σ po → sn_Wd D dA ad A H0 σ H locs → (∀ v ∈ as, sn_vo v) → (∀ v ∈ rest, sn_vo v) → ls.size = nL → rest.length ≤ 4 →
    (∀ (r : Option sn_V) (σ' : sn_M) (H1 : Heap) (locs1 : List Loc), po r σ' → sn_Wd D dA ad A H0 σ' H1 locs1 → (∀ v, r = some v → sn_vo v) → W p l e R s m args below meth c H1 locs1 0 0 Q (F0 m (pc + 3) ls ((r.toList ++ rest).map (sn_cv ad)))) →
    W p l e R s m args below meth c H locs 0 0 Q (F0 m pc ls ((as.reverse ++ rest).map (sn_cv ad)))
/-- what a method's tables must give -/
def sn_FI (own : String) (Ts : List Cond) (fi : Nat → Option (Nat × Nat)) : Prop := ∀ x ci j, fi x = some (ci, j) → ∃ r, sn_cl[ci]? = some r ∧ j < r.2.2 ∧ (∀ w ∈ u_ws r.1 r.2.1 r.2.2, w ∈ Ts) ∧ (r.2.1 j).1 = r.1 ∧ Cond.fieldLink own x r.1 (r.2.1 j).2.1 (r.2.1 j).2.2.1 ∈ Ts
theorem sn_get (hx : p.tables.exec = Jvm.exec) (hb : c.code = cc) (hK : va_K D sn_cl (sn_tys dA) s) (hts : ∀ w ∈ Ts, w.before args s = true) (hown : s.vm.findClass own = some m.cls) {fi : Nat → Option (Nat × Nat)} (hfi : sn_FI own Ts fi)
    {σ : sn_M} {H : Heap} {locs : List Loc} {ls : Array Slot} {x ci j k i pc : Nat} {rest : List Value} (hf : fi x = some (ci, j)) (hk : sn_ok k i) (hc : sn_kc k = ci) (hci : ci < 100) (hP : va_P D sn_cl (sn_wd dA ad σ) H) (hd : decode cc pc = .ok (.getfield x, 3))
    (kk : j < sn_kl k → W p l e R s m args below meth c H locs 0 0 Q (F0 m (pc + 3) ls (sn_fv ad σ k i j :: rest))) : W p l e R s m args below meth c H locs 0 0 Q (F0 m pc ls (.ref (ad k i) :: rest)) := by
  obtain ⟨r, h1, h2, h3, h4, h5⟩ := hfi x ci j hf
  obtain ⟨n, hn⟩ := sn_ps_at hk
  subst hc
  obtain ⟨r', g1, g2, -⟩ := sn_tab_o hk.1 hci
  have er : r' = r := Option.some.inj (g1.symm.trans h1)
  subst er
  have hj : j < sn_kl k := by rw [← g2]; exact h2
  have he := sn_wd_at (dA := dA) (ad := ad) (σ := σ) hn
  rw [sn_en_o hci] at he
  exact va_get (D := D) (C := r'.1) (T := r'.2.1) (N := r'.2.2) hx hb hts h3 hown hK hP n he h1 j h2 (hts _ h5) (fun z hz => by rw [h4] at hz; exact hz) (v := sn_fv ad σ k i j) (by rw [List.getElem?_map, List.getElem?_range hj]; rfl) hd (kk hj)
theorem sn_put (hx : p.tables.exec = Jvm.exec) (hb : c.code = cc) (hK : va_K D sn_cl (sn_tys dA) s) (hts : ∀ w ∈ Ts, w.before args s = true) (hown : s.vm.findClass own = some m.cls) {fi : Nat → Option (Nat × Nat)} (hfi : sn_FI own Ts fi)
    {σ σ' : sn_M} {H : Heap} {locs : List Loc} {ls : Array Slot} {x ci j k i pc : Nat} {rest : List Value} {v : Value} (hf : fi x = some (ci, j)) (hk : sn_ok k i) (hc : sn_kc k = ci) (hci : ci < 100) (hW : sn_Wd D dA ad A H0 σ H locs) (hd : decode cc pc = .ok (.putfield x, 3))
    (hty : ∃ ty, (∀ r : vw_C, sn_cl[ci]? = some r → j < sn_kl k → parseFieldDescriptor (r.2.1 j).2.2.1 = some ty ∧ (r.2.1 j).2.2.2 = false) ∧ narrow ty v = v ∧ fits ty v = true)
    (ho : ∀ k' i', ¬ (k' = k ∧ i' = i) → sn_en dA ad σ' k' i' = sn_en dA ad σ k' i') (hs : sn_fv ad σ' k i j = v) (hs2 : ∀ j', j' ≠ j → sn_fv ad σ' k i j' = sn_fv ad σ k i j') (hR : ∀ k i j, sn_R (σ'.1 k i j))
    (kk : ∀ H1 locs1, sn_Wd D dA ad A H0 σ' H1 locs1 → W p l e R s m args below meth c H1 locs1 0 0 Q (F0 m (pc + 3) ls rest)) : W p l e R s m args below meth c H locs 0 0 Q (F0 m pc ls (v :: .ref (ad k i) :: rest)) := by
  obtain ⟨r, h1, h2, h3, h4, h5⟩ := hfi x ci j hf
  obtain ⟨n, hn⟩ := sn_ps_at hk
  subst hc
  obtain ⟨r', g1, g2, -⟩ := sn_tab_o hk.1 hci
  have er : r' = r := Option.some.inj (g1.symm.trans h1)
  subst er
  have hj : j < sn_kl k := by rw [← g2]; exact h2
  have he := sn_wd_at (dA := dA) (ad := ad) (σ := σ) hn
  rw [sn_en_o hci] at he
  obtain ⟨hP, hD, hS, -⟩ := hW
  obtain ⟨ty, t1, t2, t3⟩ := hty
  obtain ⟨t4, t5⟩ := t1 r' h1 hj
  have hset : (sn_wd dA ad σ).set n (ad k i, .inr (sn_kc k, ((List.range (sn_kl k)).map (sn_fv ad σ k i)).set j v)) = sn_wd dA ad σ' := by
    refine sn_set hn ho ?_
    rw [sn_en_o hci]
    congr 2
    apply List.ext_getElem?
    intro q
    rw [List.getElem?_set, List.getElem?_map, List.getElem?_map, List.length_map, List.length_range]
    by_cases hq : j = q
    · subst hq
      rw [if_pos rfl, if_pos hj, List.getElem?_range hj]
      exact congrArg some hs
    · rw [if_neg hq]
      by_cases hq2 : q < sn_kl k
      · rw [List.getElem?_range hq2]
        exact congrArg some (hs2 q (fun z => hq z.symm))
      · rw [List.getElem?_eq_none (by rw [List.length_range]; omega)]
        rfl
  refine va_put (D := D) (C := r'.1) (T := r'.2.1) (N := r'.2.2) (ty := ty) hx hb hts h3 _ (sn_cl_f h1).1 (sn_cl_f h1).2 hown hK hP hD hS n he h1 j h2 (hts _ h5) (fun z hz => by rw [h4] at hz; exact hz) t5 t4 t2 t3 (by rw [List.length_map, List.length_range]; exact hj) hd (fun H1 locs1 a1 a2 a3 => ?_)
  rw [hset] at a1 a2
  exact kk H1 locs1 ⟨a1, a2, a3, hR⟩
end SNW
