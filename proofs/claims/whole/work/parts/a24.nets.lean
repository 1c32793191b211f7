/-! The linkings of a formula that are nets. -/
theorem sV_eq {T : fT} {S S' : sT} (hok : s_ok T S) (e : s_eq S S') {v f : Int} : s_V S v f ↔ s_V S' v f := by
  have m := s_st_m S'
  have a : my_s T S S' 0 (s_st S') := ⟨m, e, hok⟩
  have b : my_s T S' S' 0 (s_st S') := ⟨m, s_eq_rf S', s_eq_ok hok e⟩
  obtain ⟨v0, f0, hx⟩ : ∃ v0 f0 : Int, (md_cp (s_st S') 0 ∧ v0 = md_v (s_st S') 0 ∧ f0 = md_fa (s_st S') 0) ∨ (¬ md_cp (s_st S') 0 ∧ v0 = 3 ∧ f0 = -1) := by
    by_cases c : md_cp (s_st S') 0
    · exact ⟨_, _, Or.inl ⟨c, rfl, rfl⟩⟩
    · exact ⟨_, _, Or.inr ⟨c, rfl, rfl⟩⟩
  have p : s_V S v0 f0 := (md_judge a (by omega)).2 hx
  have q : s_V S' v0 f0 := (md_judge b (by omega)).2 hx
  constructor
  · intro h
    obtain ⟨rfl, rfl⟩ := s_V_u h p
    exact q
  · intro h
    obtain ⟨rfl, rfl⟩ := s_V_u h q
    exact p
def isN (S : sT) : Prop := ∃ fl, s_V S 0 fl
def s_00 : sT := (fun _ _ => 0, 0, 0, 0)
noncomputable def nb (T : fT) (f : Nat) (st : pth) : Bool := @decide (isN (asm T f (ptn st) s_00)) (Classical.propDecidable _)
theorem nb_i (T : fT) (f : Nat) (st : pth) : nb T f st = true ↔ isN (asm T f (ptn st) s_00) := @decide_eq_true_iff _ (Classical.propDecidable _)
/-- all complete linkings, in their order -/
def AL (T : fT) (f : Nat) : List pth := lvs ((lf T f).length / 2) (pre (lf T f).length (fit T (lf T f)) ((lf T f).length / 2) [])
noncomputable def NL (T : fT) (f : Nat) : List pth := if (lf T f).length % 2 = 0 then (AL T f).filter (nb T f) else []
theorem wf_mat {T : fT} (hT : fT_ok T) {f : Nat} (hf : f < T.2) {st : pth} (h : wf (lf T f).length (fit T (lf T f)) st) (hl : 2 * st.length = (lf T f).length) : matT T (lf T f) (ptn st) (lf T f).length := by
  have full := wf_full h hl
  refine ⟨fun j hj => ?_, fun j hj => (at_ok hT hf j).1, fun j hj => ?_⟩
  · rcases wf_pt h j with z | ⟨q, z1, -, z3, z4, z5, -⟩
    · exact absurd z (full j hj)
    · exact ⟨q, z1, z3, z4, z5⟩
  · rcases wf_pt h j with z | ⟨q, z1, -, z3, z4, z5, z6⟩
    · exact absurd z (full j hj)
    · rw [z1, show ((q : Int)).toNat = q from rfl]
      refine (fit_du hT hf j q).mp ?_
      rcases z6 with z6 | z6
      · exact z6
      · rw [fit_sy]; exact z6
theorem AL_in {T : fT} {f : Nat} (he : (lf T f).length % 2 = 0) {st : pth} (h : st ∈ AL T f) : wf (lf T f).length (fit T (lf T f)) st ∧ 2 * st.length = (lf T f).length := by
  obtain ⟨h1, h2⟩ := List.mem_filter.mp h
  have h2 : st.length = (lf T f).length / 2 := of_decide_eq_true h2
  exact ⟨pre_wf (st := []) trivial (by show 2 * (0 + _) ≤ _; omega) h1, by omega⟩
theorem nb_any {T : fT} (hT : fT_ok T) {f : Nat} (hf : f < T.2) (hn : (lf T f).length ≤ 8) {st : pth} (h : wf (lf T f).length (fit T (lf T f)) st) (hl : 2 * st.length = (lf T f).length) (S : sT) : nb T f st = true ↔ isN (asm T f (ptn st) S) := by
  rw [nb_i]
  obtain ⟨-, -, -, -, -, ok, -⟩ := asm_ok hT hf s_00 hn (wf_mat hT hf h hl)
  exact exists_congr (fun fl => sV_eq ok (asm_eq T f (ptn st) s_00 S))
theorem NL_len {T : fT} (hT : fT_ok T) {f : Nat} (hf : f < T.2) (hn : (lf T f).length ≤ 8) (he : (lf T f).length % 2 = 0) : (AL T f).length ≤ 24 := by
  have := pre_len (n := (lf T f).length) (ft := fit T (lf T f)) (r := fun k => decide (T.1 2 ((lf T f).getD k 0) = 1)) (fun k p h => fit_r hT hf k p h) (m := (lf T f).length / 2) (st := []) trivial (by show 2 * (0 + _) = _; omega)
  rw [List.length_nil, Nat.zero_add] at this
  refine Nat.le_trans this ?_
  have h4 : (lf T f).length / 2 ≤ 4 := by omega
  generalize (lf T f).length / 2 = m at h4
  match m, h4 with
  | 0, _ => decide
  | 1, _ => decide
  | 2, _ => decide
  | 3, _ => decide
  | 4, _ => decide
  | m + 5, h => omega
/-- openers are the pairs -/
theorem ox_up {g : Nat → Int} {k : Nat} {v : Int} (h1 : g k = -1) : ∀ n, ox (sn_up g k v) n = ox g n + (if k < n ∧ (k : Int) < v then 1 else 0) := by
  intro n
  induction n with
  | zero =>
    show 0 = 0 + (if k < 0 ∧ (k : Int) < v then 1 else 0)
    rw [if_neg (fun (z : k < 0 ∧ (k : Int) < v) => Nat.not_lt_zero k z.1)]
  | succ n ih =>
    rw [ox_s, ox_s, ih]
    by_cases w : n = k
    · subst w
      rw [sn_up_at, if_neg (fun (z : n < n ∧ (n : Int) < v) => Nat.lt_irrefl n z.1), if_neg (show ¬ (n : Int) < g n by omega)]
      by_cases c : (n : Int) < v
      · rw [if_pos c, if_pos ⟨Nat.lt_succ_self n, c⟩]
      · rw [if_neg c, if_neg (fun z => c z.2)]
    · rw [sn_up_ne _ w]
      by_cases c : k < n ∧ (k : Int) < v
      · rw [if_pos c, if_pos (show k < n + 1 ∧ (k : Int) < v from ⟨by omega, c.2⟩)]
        omega
      · rw [if_neg c, if_neg (show ¬ (k < n + 1 ∧ (k : Int) < v) from fun z => c ⟨by omega, z.2⟩)]
        omega
theorem ox_neg {n : Nat} : ox (fun _ => -1) n = 0 := by
  induction n with
  | zero => rfl
  | succ n ih => rw [ox_s, ih, if_neg (by omega)]
theorem wf_ox {n : Nat} {ft : Nat → Nat → Bool} : ∀ {st : pth}, wf n ft st → ox (ptn st) n = st.length := by
  intro st
  induction st with
  | nil => intro _; exact ox_neg
  | cons x st ih =>
    intro h
    obtain ⟨h0, h1, h2, h3, h4, -⟩ := h
    obtain ⟨f1, f2, -⟩ := fa_ok (ptn st) n
    have k1 : ptn st x.1 = -1 := by rw [h1]; exact f2 (by omega)
    have k2 : sn_up (ptn st) x.1 (x.2 : Int) x.2 = -1 := by rw [sn_up_ne _ (by omega)]; exact h4
    show ox (sn_up (sn_up (ptn st) x.1 (x.2 : Int)) x.2 (x.1 : Int)) n = st.length + 1
    rw [ox_up k2, ox_up k1, ih h0, if_pos ⟨by omega, by omega⟩, if_neg (fun z => by have := z.2; omega)]
theorem sE_cn (S : sT) : ((sE S).length : Int) = 2 * cn_ct (S.1 0) 1 S.2.1 + 2 * cn_ct (S.1 0) 3 S.2.1 := by
  unfold sE
  generalize S.2.1 = n
  induction n with
  | zero => rfl
  | succ n ih =>
    rw [cs_B_s, List.length_append, cn_ct_s, cn_ct_s]
    by_cases z : S.1 0 n = 1
    · rw [if_pos (Or.inl z), if_pos (by omega), if_neg (by omega)]
      simp only [List.length_cons, List.length_nil]
      omega
    · by_cases y : S.1 0 n = 3
      · rw [if_pos (Or.inr y), if_neg (by omega), if_pos (by omega)]
        simp only [List.length_cons, List.length_nil]
        omega
      · rw [if_neg (fun w => w.elim z y), if_neg (by omega), if_neg (by omega), List.length_nil]
        omega
/-- a net has as many tensors as that -/
theorem net_tn {T : fT} (hT : fT_ok T) {f : Nat} (hf : f < T.2) (hn : (lf T f).length ≤ 8) {st : pth} (h : wf (lf T f).length (fit T (lf T f)) st) (hl : 2 * st.length = (lf T f).length) (hb : nb T f st = true) : tn T (pp T f) + 1 = (lf T f).length / 2 := by
  obtain ⟨fl, hV⟩ := (nb_i T f st).mp hb
  have hm := wf_mat hT hf h hl
  obtain ⟨S', e, e1, e2, ro, ok, -⟩ := asm_ok hT hf s_00 hn hm
  have g := (net_gd ok hV).2.2.1
  have cE := sE_cn (asm T f (ptn st) s_00)
  have cQ : ((sQ (asm T f (ptn st) s_00)).length : Int) = cn_ct ((asm T f (ptn st) s_00).1 0) 2 (asm T f (ptn st) s_00).2.1 := by
    unfold sQ
    rw [List.length_map, cs_pl_l]
  have cA := sA_len (asm T f (ptn st) s_00)
  have al := cn_all (f := (asm T f (ptn st) s_00).1 0) (asm T f (ptn st) s_00).2.1 (fun l hl => (ok.2.1 l hl).1)
  rw [e2] at cE cQ cA al g
  obtain ⟨a1, a2, a3, a4⟩ := axs_ok (S := s_00) hn hm (lf T f).length (Nat.le_refl _)
  obtain ⟨n1, n2, n3⟩ := axs_n (lf T f) (ptn st) s_00 (lf T f).length
  obtain ⟨j1, j2, j3⟩ := js_ct (pp T f) _ ro
  rw [e1] at j1 j2 j3
  have j1 : cn_ct (S'.1 0) 0 S'.2.1 = cn_ct ((axs (lf T f) (ptn st) (s_0 s_00) (lf T f).length).1 0) 0 (axs (lf T f) (ptn st) (s_0 s_00) (lf T f).length).2.1 := j1
  have j2 : cn_ct (S'.1 0) 3 S'.2.1 = cn_ct ((axs (lf T f) (ptn st) (s_0 s_00) (lf T f).length).1 0) 3 (axs (lf T f) (ptn st) (s_0 s_00) (lf T f).length).2.1 := j2
  have j3 : cn_ct (S'.1 0) 1 S'.2.1 = cn_ct ((axs (lf T f) (ptn st) (s_0 s_00) (lf T f).length).1 0) 1 (axs (lf T f) (ptn st) (s_0 s_00) (lf T f).length).2.1 + (tn T (pp T f) : Int) := j3
  have al0 := cn_all (f := (axs (lf T f) (ptn st) (s_0 s_00) (lf T f).length).1 0) (axs (lf T f) (ptn st) (s_0 s_00) (lf T f).length).2.1 (fun l hl => (a1.2.1 l hl).1)
  have b0 := cn_ct_b ((axs (lf T f) (ptn st) (s_0 s_00) (lf T f).length).1 0) (-1) (axs (lf T f) (ptn st) (s_0 s_00) (lf T f).length).2.1
  have b3 := cn_ct_b ((axs (lf T f) (ptn st) (s_0 s_00) (lf T f).length).1 0) 3 (axs (lf T f) (ptn st) (s_0 s_00) (lf T f).length).2.1
  have ow := wf_ox h
  rw [n1] at j1 j2 j3 al0 b0 b3
  have k0 : cn_ct ((s_nm S' e).1 0) 0 (s_nm S' e).2.1 = cn_ct (S'.1 0) 0 S'.2.1 := rfl
  have k1 : cn_ct ((s_nm S' e).1 0) 1 (s_nm S' e).2.1 = cn_ct (S'.1 0) 1 S'.2.1 := rfl
  have k3 : cn_ct ((s_nm S' e).1 0) 3 (s_nm S' e).2.1 = cn_ct (S'.1 0) 3 S'.2.1 := rfl
  rw [k0, k1, k3] at al
  rw [k1, k3] at cE
  omega
theorem NL_no {T : fT} (hT : fT_ok T) {f : Nat} (hf : f < T.2) (hn : (lf T f).length ≤ 8) (h : ¬ ((lf T f).length % 2 = 0 ∧ tn T (pp T f) + 1 = (lf T f).length / 2)) : NL T f = [] := by
  unfold NL
  by_cases he : (lf T f).length % 2 = 0
  · rw [if_pos he]
    refine List.filter_eq_nil_iff.mpr (fun st hst hb => h ⟨he, ?_⟩)
    obtain ⟨w, l⟩ := AL_in he hst
    exact net_tn hT hf hn w l hb
  · rw [if_neg he]
/-- growing tables -/
theorem js_g {T T' : fT} {g : Nat → Int} (h1 : ∀ a f, a ≠ 3 → f < T.2 → T'.1 a f = T.1 a f) : ∀ (L : List Nat) (x : jT), (∀ f ∈ L, f < T.2) → L.foldl (js T' g) x = L.foldl (js T g) x := by
  intro L
  induction L with
  | nil => intro x _; rfl
  | cons f L ih =>
    intro x h
    rw [List.foldl_cons, List.foldl_cons, ih _ (fun k hk => h k (List.mem_cons_of_mem _ hk))]
    congr 1
    unfold js
    rw [h1 0 f (by decide) (h f List.mem_cons_self)]
theorem NL_g {T T' : fT} (hT : fT_ok T) (h1 : ∀ a g, a ≠ 3 → g < T.2 → T'.1 a g = T.1 a g) {f : Nat} (hf : f < T.2) : NL T' f = NL T f := by
  have e1 := lf_g hT h1 f hf
  have e2 := pp_g hT h1 f hf
  have e3 : fit T' (lf T f) = fit T (lf T f) := by
    funext k p
    exact fit_g hT h1 hf k p
  have e4 : ∀ g S, asm T' f g S = asm T f g S := by
    intro g S
    unfold asm
    rw [e1, e2, js_g h1 (pp T f) _ (pp_lt hT f hf)]
  have e5 : nb T' f = nb T f := by
    funext st
    unfold nb
    congr 1
    rw [e4]
  unfold NL AL
  rw [e1, e3, e5]
