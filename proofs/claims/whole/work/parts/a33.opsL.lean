/-! The calls linkings, partner, build. -/
theorem cp_ne {b b' a c : Nat} (h : cp_P b a 0 c) (g : cp_P b' a 0 c) : b = b' := by
  obtain ⟨-, h⟩ := h
  obtain ⟨-, g⟩ := g
  rcases h with ⟨h1, h2⟩ | ⟨h1, h2, h3, h4⟩ | ⟨h1, h2, h3, h4⟩ <;> rcases g with ⟨g1, g2⟩ | ⟨g1, g2, g3, g4⟩ | ⟨g1, g2, g3, g4⟩ <;> omega
theorem in_gt {LS : fT → sn_M → Prop} (hF : in_F LS) {T : fT} {S0 S0' S1 S1' : sT} {σ σ' : sn_M} (h : in_v LS T S0 S0' S1 S1' σ) (f : sn_fr gt_P σ σ') : in_v LS T S0 S0' S1 S1' σ' := by
  obtain ⟨⟨h1, h2, h3, h4⟩, h5, h6, h7⟩ := h
  have c6 : ∀ {a b c : Nat}, cp_P 3 a b c → 46 ≤ a ∧ a ≤ 57 := fun {a b c} q => by
    have hb := q.1
    subst hb
    exact cp_46 q
  refine ⟨⟨fo_v_fr h1 f (fun a c g1 g2 q => ?_), gt_mt h2 f, h3, h4⟩, in_s_fr h5 f (fun a c g1 g2 q => ?_) (fun a c g q => ?_), in_s_fr h6 f (fun a c g1 g2 q => ?_) (fun a c g q => ?_), hF.1 T σ σ' h7 (fun a i j g1 g2 => f.2 a i j (fun q => ?_))⟩
  all_goals rcases q with q | q
  · have := c6 q; omega
  · exact q.1 ⟨g1, g2⟩
  · have := c6 q; omega
  · exact q.2.1 ⟨g1, g2, by omega⟩
  · have := cp_ne g q; omega
  · exact q.2.2.2.2.2 (cp_46 g)
  · have := c6 q; omega
  · exact q.2.1 ⟨g1, g2, by omega⟩
  · have := cp_ne g q; omega
  · exact q.2.2.2.2.2 (cp_46 g)
  · have := c6 q; omega
  · exact q.2.2.1 ⟨g1, g2⟩
theorem in_cf {T : fT} {S0 S0' S1 S1' : sT} {σ σ' : sn_M} (h : in_v LSP T S0 S0' S1 S1' σ) (f : sn_fr cf_P σ σ') (hL : LSP T σ') : in_v LSP T S0 S0' S1 S1' σ' := by
  obtain ⟨⟨h1, h2, h3, h4⟩, h5, h6, h7⟩ := h
  have no : ∀ {a b c : Nat}, cf_P a b c → (33 ≤ a ∧ a ≤ 39) ∨ (9 ≤ a ∧ a ≤ 18 ∧ b = 3) ∨ (19 ≤ a ∧ a ≤ 24) := fun {a b c} q => by
    rcases q with q | q | q
    · exact Or.inl q
    · exact Or.inr (Or.inl ⟨q.1.1, q.1.2, q.2⟩)
    · rcases q with q | q | q | q | q <;> omega
  refine ⟨⟨cf_fo h1 f, mt_v_fr h2 f (fun a c g1 g2 q => ?_) (fun q => ?_), h3, h4⟩, in_s_fr h5 f (fun a c g1 g2 q => ?_) (fun a c g q => ?_), in_s_fr h6 f (fun a c g1 g2 q => ?_) (fun a c g q => ?_), hL⟩
  · have := no q; omega
  · have := no q; omega
  · have := no q; omega
  · have := no q; have := cp_46 g; omega
  · have := no q; omega
  · have := no q; have := cp_46 g; omega
/-- a linking that is there -/
def lkg (T : fT) (x i : Int) (f : Nat) (st : pth) : Prop := x = (f : Int) ∧ f < T.2 ∧ (lf T f).length ≤ 8 ∧ 0 ≤ i ∧ (NL T f)[i.toNat]? = some st
theorem NL_in {T : fT} {f : Nat} {k : Nat} {st : pth} (h : (NL T f)[k]? = some st) : wf (lf T f).length (fit T (lf T f)) st ∧ 2 * st.length = (lf T f).length ∧ nb T f st = true := by
  have hin := List.mem_of_getElem? h
  unfold NL at hin
  by_cases he : (lf T f).length % 2 = 0
  · rw [if_pos he] at hin
    obtain ⟨h1, h2⟩ := List.mem_filter.mp hin
    obtain ⟨w, l⟩ := AL_in he h1
    exact ⟨w, l, h2⟩
  · rw [if_neg he] at hin
    cases hin
theorem NL_24 {T : fT} (hT : fT_ok T) {f : Nat} (hf : f < T.2) (hn : (lf T f).length ≤ 8) : (NL T f).length ≤ 24 := by
  unfold NL
  by_cases he : (lf T f).length % 2 = 0
  · rw [if_pos he]
    have := List.length_filter_le (nb T f) (AL T f)
    have := NL_len hT hf hn he
    omega
  · rw [if_neg he]
    exact Nat.zero_le _
theorem md_isLk {T : fT} {σ : sn_M} (hm : mt_v T σ) (hT : fT_ok T) (h80 : T.2 ≤ 80) (x i : Int) (po : Option sn_V → sn_M → Prop) (h1 : ∀ (f : Nat) (st : pth) (σ' : sn_M), lkg T x i f st → mlA T f σ' → pvm σ' st → sn_fr gt_P σ σ' → po (some (.inl 1)) σ') (h0 : ∀ σ', (∀ f st, ¬ lkg T x i f st) → sn_fr gt_P σ σ' → po (some (.inl 0)) σ') : sp_MD_isLinking [.inr (.inr (40, 0)), .inl x, .inl i] σ po := by
  refine fun G => md_isF hm x _ (fun hin => And.intro (fun z => absurd z (by decide)) (fun _ => And.intro (fun c => And.intro (Or.inl rfl) (h0 σ (fun f st z => ?_) (sn_fr_rf _ σ))) (fun c => And.intro (fun d => ?_) (fun d => And.intro (Or.inl rfl) (h0 σ (fun f st z => ?_) (sn_fr_rf _ σ)))))) (fun hno => And.intro (fun _ => And.intro (Or.inl rfl) (h0 σ (fun f st z => ?_) (sn_fr_rf _ σ))) (fun z => absurd rfl z))
  · have c : i < 0 := c
    have := z.2.2.2.1
    omega
  · have c : 0 ≤ i := c
    have d : i < 1000 := d
    obtain ⟨m, rfl⟩ := Int.eq_ofNat_of_zero_le c
    obtain ⟨f, rfl⟩ := Int.eq_ofNat_of_zero_le hin.1
    have hf : f < T.2 := by have := hin.2; omega
    have rm' : sn_R ((m : Int) + 1) := by unfold sn_R; omega
    have uf : ∀ f' st, lkg T (f : Int) (m : Int) f' st → f' = f ∧ (lf T f).length ≤ 8 ∧ (NL T f)[m]? = some st := fun f' st z => by
      have : f' = f := by have := z.1; omega
      subst this
      exact ⟨rfl, z.2.2.1, z.2.2.2.2⟩
    refine And.intro rfl ⟨T, f, m, hm, hT, h80, rfl, hf, rfl, by omega, fun σ' h9 e9 f' => And.intro rm' (And.intro (fun z => ?_) (fun _ => And.intro (Or.inl rfl) (h0 σ' (fun f2 st z => ?_) f'))), fun st σ' h8 hst hw hA hp f' => And.intro rm' (And.intro (fun _ => And.intro (Or.inr rfl) (h1 f st σ' ⟨rfl, hf, h8, by omega, hst⟩ hA hp f')) (fun z => absurd rfl z)), fun σ' h8 hle hA f' => And.intro rm' (And.intro (fun z => ?_) (fun _ => And.intro (Or.inl rfl) (h0 σ' (fun f2 st z => ?_) f')))⟩
    · have z : (0 : Int) = (m : Int) + 1 := z
      omega
    · have := (uf f2 st z).2.1
      omega
    · have z : ((NL T f).length : Int) = (m : Int) + 1 := z
      omega
    · have := (uf f2 st z).2.2
      have := (List.getElem?_eq_some_iff.mp this).1
      omega
  · have d : (1000 : Int) ≤ i := d
    have b := NL_24 hT z.2.1 z.2.2.1
    have := (List.getElem?_eq_some_iff.mp z.2.2.2.2).1
    omega
  · exact hno ⟨by have := z.1; omega, by have := z.1; have := z.2.1; omega⟩
theorem op_linkings : lw_O (in_I LSP) 21 := by
  refine ⟨_, _, _, _, by decide, by decide, ct_SN_linkings, ct_MD_linkings, fun n σ xs i hI hn hR => ?_⟩
  obtain ⟨T, S0, S0', S1, S1', hv⟩ := hI
  obtain ⟨hfo, hmt, hT, h80⟩ := id hv.1
  generalize hx : (xs (i + 1 + 0)).toInt = x
  have has : lw_as xs i 1 = [.inl x] := by rw [← hx]; rfl
  rw [has]
  have ref : ∀ (r : Int) (σ1 : sn_M), in_v LSP T S0 S0' S1 S1' σ1 → (¬ okf T x → r = -1) → (∀ f : Nat, x = (f : Int) → f < T.2 → (lf T f).length ≤ 8 → r = ((NL T f).length : Int)) → sp_MD_linkings [.inr (.inr (40, 0)), .inl x] σ1 (fun r' σ2 => r' = some (.inl r) ∧ in_I LSP (n + 1) σ2) := by
    intro r σ1 hv1 r0 r1
    have hc := in_c LSP_F hv1 0
    refine fun G => md_isF hc.1.2.1 x _ (fun hin => And.intro (fun z => absurd z (by decide)) (fun _ => ?_)) (fun hno => And.intro (fun _ => ⟨?_, T, S0, S0', S1, S1', hc⟩) (fun z => absurd rfl z))
    · obtain ⟨f, rfl⟩ := Int.eq_ofNat_of_zero_le hin.1
      have hf : f < T.2 := by have := hin.2; omega
      refine And.intro rfl ⟨T, f, 1000, hc.1.2.1, hT, h80, rfl, hf, rfl, Nat.le_refl _, fun σ' h9 e9 f' => And.intro (fun z => ?_) (fun _ => ⟨?_, T, S0, S0', S1, S1', in_gt LSP_F hc f'⟩), fun st σ' h8 hst hw hA hp f' => ?_, fun σ' h8 hle hA f' => And.intro (fun _ => ⟨?_, T, S0, S0', S1, S1', in_gt LSP_F hc f'⟩) (fun z => ?_)⟩
      · have z : σ'.1 40 0 24 ≤ 8 := z
        omega
      · rw [r0 (fun y => by
          obtain ⟨f2, e, -, h8⟩ := y
          have : f2 = f := by omega
          subst this
          omega)]
      · have b := NL_24 hT hf h8
        have := (List.getElem?_eq_some_iff.mp hst).1
        omega
      · rw [r1 f rfl hf h8]
      · have z : (8 : Int) < σ'.1 40 0 24 := z
        have := hA.2
        omega
    · rw [r0 (fun y => by
        obtain ⟨f2, e, hf, -⟩ := y
        exact hno ⟨by omega, by omega⟩)]
  refine fun G => And.intro rfl (And.intro rfl ⟨T, hfo, hT, h80, hv.2.2.2, fun hno => ⟨_, rfl, fun _ => ref (-1) σ hv (fun _ => rfl) (fun f e hf h8 => absurd ⟨f, e, hf, h8⟩ hno)⟩, fun f σ1 e hf h8 e8 hA hF f1 => ⟨_, rfl, fun _ => ref _ σ1 (in_cf hv f1 (Or.inr ⟨f, e8, hf, h8, hA, hF⟩)) (fun z => absurd ⟨f, e, hf, h8⟩ z) (fun f2 e2 _ _ => ?_)⟩⟩)
  have : f2 = f := by omega
  rw [this]
theorem op_partner : lw_O (in_I LSP) 22 := by
  refine ⟨_, _, _, _, by decide, by decide, ct_SN_partner, ct_MD_partner, fun n σ xs i hI hn hR => ?_⟩
  obtain ⟨T, S0, S0', S1, S1', hv⟩ := hI
  obtain ⟨hfo, hmt, hT, h80⟩ := id hv.1
  generalize hx : (xs (i + 1 + 0)).toInt = x
  generalize hy : (xs (i + 1 + 1)).toInt = j
  generalize hz : (xs (i + 1 + 2)).toInt = k
  have has : lw_as xs i 3 = [.inl x, .inl j, .inl k] := by rw [← hx, ← hy, ← hz]; rfl
  rw [has]
  have ref : ∀ (r : Int) (σ1 : sn_M), in_v LSP T S0 S0' S1 S1' σ1 → ((∀ f st, lkg T x j f st → ¬ (0 ≤ k ∧ k < ((lf T f).length : Int))) → r = -1) → (∀ f st, lkg T x j f st → 0 ≤ k → k < ((lf T f).length : Int) → r = ptn st k.toNat) → sp_MD_partner [.inr (.inr (40, 0)), .inl x, .inl j, .inl k] σ1 (fun r' σ2 => r' = some (.inl r) ∧ in_I LSP (n + 1) σ2) := by
    intro r σ1 hv1 r0 r1
    have hc := in_c LSP_F hv1 0
    refine fun G => And.intro (fun c => ⟨?_, T, S0, S0', S1, S1', hc⟩) (fun c => And.intro (fun d => ?_) (fun d => ⟨?_, T, S0, S0', S1, S1', hc⟩))
    · have c : k < 0 := c
      rw [r0 (fun f st _ z => by omega)]
    · have c : 0 ≤ k := c
      have d : k < 8 := d
      refine md_isLk hc.1.2.1 hT h80 x j _ (fun f st σ2 hl hA hp f2 => And.intro (fun z => absurd z (by decide)) (fun _ => And.intro (fun e => And.intro (show 0 ≤ k ∧ k < (8 : Nat) by omega) ⟨?_, T, S0, S0', S1, S1', in_gt LSP_F hc f2⟩) (fun e => ⟨?_, T, S0, S0', S1, S1', in_gt LSP_F hc f2⟩))) (fun σ2 hno f2 => And.intro (fun _ => ⟨?_, T, S0, S0', S1, S1', in_gt LSP_F hc f2⟩) (fun z => absurd rfl z))
      · have e : k < σ2.1 40 0 24 := e
        rw [hA.2] at e
        rw [r1 f st hl c e]
        show some (Sum.inl (σ2.1 62 0 k.toNat)) = _
        rw [hp k.toNat (by omega)]
      · have e : σ2.1 40 0 24 ≤ k := e
        rw [hA.2] at e
        rw [r0 (fun f2 st2 h2 z => ?_)]
        have : f2 = f := by have := h2.1; have := hl.1; omega
        subst this
        omega
      · rw [r0 (fun f2 st2 h2 => absurd h2 (hno f2 st2))]
    · have d : (8 : Int) ≤ k := d
      rw [r0 (fun f st h z => by have := h.2.2.1; omega)]
  refine fun G => And.intro (fun c => ⟨_, rfl, fun _ => ref (-1) σ hv (fun _ => rfl) (fun f st h => ?_)⟩) (fun c => ?_)
  · have c : j < 0 := c
    have := h.2.2.2.1
    omega
  have c : 0 ≤ j := c
  refine And.intro rfl (And.intro rfl ⟨T, hfo, hT, h80, hv.2.2.2, fun hno => And.intro (fun z => ?_) (fun _ => ⟨_, rfl, fun _ => ref (-1) σ hv (fun _ => rfl) (fun f st h => ?_)⟩), fun f σ1 e hf h8 e8 hA hF f1 => ?_⟩)
  · have z : j < -1 := z
    omega
  · exact absurd ⟨f, h.1, h.2.1, h.2.2.1⟩ hno
  · have hv1 := in_cf hv f1 (Or.inr ⟨f, e8, hf, h8, hA, hF⟩)
    have uf : ∀ f2 st, lkg T x j f2 st → f2 = f ∧ (NL T f)[j.toNat]? = some st := fun f2 st h => by
      have : f2 = f := by have := h.1; omega
      subst this
      exact ⟨rfl, h.2.2.2.2⟩
    have r6 : σ1.1 6 0 = T.1 4 := hv1.1.1.1.2.2.2.2
    have oc := oc_lf hT f hf
    rw [if_neg (by omega)] at oc
    have b24 := NL_24 hT hf h8
    refine And.intro (fun d => ?_) (fun d => ⟨_, rfl, fun _ => ref (-1) σ1 hv1 (fun _ => rfl) (fun f2 st h => ?_)⟩)
    · have d : j < ((NL T f).length : Int) := d
      have lt : j.toNat < (NL T f).length := by omega
      have hst := List.getElem?_eq_getElem lt
      refine And.intro (fun g => ⟨_, rfl, fun _ => ref (-1) σ1 hv1 (fun _ => rfl) (fun f2 st h h0 => ?_)⟩) (fun g => And.intro (show 0 ≤ x ∧ x < (80 : Nat) by omega) (And.intro (fun w => ?_) (fun w => ⟨_, rfl, fun _ => ref (-1) σ1 hv1 (fun _ => rfl) (fun f2 st h h0 h1 => ?_)⟩)))
      · have g : k < 0 := g
        omega
      · have g : 0 ≤ k := g
        have w : k < σ1.1 6 0 x.toNat := w
        rw [r6, e, show ((f : Int)).toNat = f from rfl, oc] at w
        have ti : (j * 8 + k).toNat = 8 * j.toNat + k.toNat := by omega
        refine fun G2 => And.intro (by unfold sn_R; omega) (And.intro (by unfold sn_R; omega) (And.intro (show 0 ≤ j * 8 + k ∧ j * 8 + k < (192 : Nat) by omega) ⟨_, rfl, fun _ => ref _ σ1 hv1 (fun z => absurd ⟨g, w⟩ (z f _ ⟨e, hf, h8, c, hst⟩)) (fun f2 st h _ _ => ?_)⟩))
        obtain ⟨-, h2⟩ := uf f2 st h
        rw [hst] at h2
        have h2 := Option.some.inj h2
        show σ1.1 39 0 (j * 8 + k).toNat = _
        rw [ti, hF.2 j.toNat _ hst k.toNat (by omega), h2]
      · have w : σ1.1 6 0 x.toNat ≤ k := w
        rw [r6, e, show ((f : Int)).toNat = f from rfl, oc] at w
        obtain ⟨rfl, -⟩ := uf f2 st h
        omega
    · have d : ((NL T f).length : Int) ≤ j := d
      obtain ⟨-, h2⟩ := uf f2 st h
      have := (List.getElem?_eq_some_iff.mp h2).1
      omega
theorem op_build : lw_O (in_I LSP) 23 := by
  refine ⟨_, _, _, _, by decide, by decide, ct_SN_build, ct_MD_build, fun n σ xs i hI hn hR => ?_⟩
  obtain ⟨T, S0, S0', S1, S1', hv⟩ := hI
  obtain ⟨hfo, hmt, hT, h80⟩ := id hv.1
  generalize hx : (xs (i + 1 + 0)).toInt = x
  generalize hy : (xs (i + 1 + 1)).toInt = j
  have has : lw_as xs i 2 = [.inl x, .inl j] := by rw [← hx, ← hy]; rfl
  rw [has]
  -- the reference says no
  have refN : ∀ (σ1 : sn_M), in_v LSP T S0 S0' S1 S1' σ1 → (∀ f st, ¬ lkg T x j f st) → sp_MD_build [.inr (.inr (40, 0)), .inl x, .inl j] σ1 (fun r' σ2 => r' = some (.inl (-1)) ∧ in_I LSP (n + 1) σ2) := by
    intro σ1 hv1 hno
    have hc := in_c LSP_F hv1 0
    exact fun G => md_isLk hc.1.2.1 hT h80 x j _ (fun f st σ2 hl => absurd hl (hno f st)) (fun σ2 _ f2 => And.intro (fun _ => ⟨rfl, T, S0, S0', S1, S1', in_gt LSP_F hc f2⟩) (fun z => absurd rfl z))
  refine fun G => And.intro (fun c => ⟨_, rfl, fun _ => refN σ hv (fun f st h => ?_)⟩) (fun c => ?_)
  · have c : j < 0 := c
    have := h.2.2.2.1
    omega
  have c : 0 ≤ j := c
  refine And.intro rfl (And.intro rfl ⟨T, hfo, hT, h80, hv.2.2.2, fun hno => And.intro (fun z => ?_) (fun _ => ⟨_, rfl, fun _ => refN σ hv (fun f st h => ?_)⟩), fun f σ1 e hf h8 e8 hA hF f1 => ?_⟩)
  · have z : j < -1 := z
    omega
  · exact absurd ⟨f, h.1, h.2.1, h.2.2.1⟩ hno
  · have hv1 := in_cf hv f1 (Or.inr ⟨f, e8, hf, h8, hA, hF⟩)
    have b24 := NL_24 hT hf h8
    refine And.intro (fun d => ?_) (fun d => ⟨_, rfl, fun _ => refN σ1 hv1 (fun f2 st h => ?_)⟩)
    case refine_2 =>
      have d : ((NL T f).length : Int) ≤ j := d
      have : f2 = f := by have := h.1; omega
      subst this
      have := (List.getElem?_eq_some_iff.mp h.2.2.2.2).1
      omega
    have d : j < ((NL T f).length : Int) := d
    have lt : j.toNat < (NL T f).length := by omega
    obtain ⟨st, hst⟩ : ∃ st, (NL T f)[j.toNat]? = some st := ⟨_, List.getElem?_eq_getElem lt⟩
    obtain ⟨hw, hl2, hnb⟩ := NL_in hst
    have hmat := wf_mat hT hf hw hl2
    have tj : (j * 8).toNat = 8 * j.toNat := by omega
    -- the class copies the linking, and assembles it
    refine fun G2 => And.intro (by unfold sn_R; omega) (And.intro (show 0 ≤ j * 8 ∧ 0 ≤ (0 : Int) ∧ 0 ≤ (8 : Int) ∧ j * 8 + 8 ≤ (192 : Nat) ∧ 0 + (8 : Int) ≤ (8 : Nat) by omega) ?_)
    have o36 : ∀ a b k, ¬ (a = 36 ∧ b = 0) → sn_cp σ1.1 39 0 36 0 (j * 8).toNat 0 8 a b k = σ1.1 a b k := fun a b k z => by
      unfold sn_cp
      rw [if_neg (fun y => z ⟨y.1, y.2.1⟩)]
    have fr36 : sn_fr cf_P σ1 (sn_cp σ1.1 39 0 36 0 (j * 8).toNat 0 8, σ1.2) := ⟨rfl, fun a b k hn' => o36 a b k (fun z => hn' (Or.inl (by omega)))⟩
    have L36 : LSP T (sn_cp σ1.1 39 0 36 0 (j * 8).toNat 0 8, σ1.2) := Or.inr ⟨f, (o36 33 0 8 (by omega)).trans e8, hf, h8, lsA_fr hA (fun a k z => o36 a 0 k (by omega)), (o36 33 0 12 (by omega)).trans hF.1, fun t st' ht k hk => (o36 39 0 _ (by omega)).trans (hF.2 t st' ht k hk)⟩
    have hv36 := in_cf hv1 fr36 L36
    refine And.intro rfl (And.intro rfl (And.intro rfl ⟨T, f, ptn st, hv36.1.1, hT, h80, hf, h8, hmat, lsA_fr hA (fun a k z => o36 a 0 k (by omega)), fun k hk => ?_, fun S σ2 v2 f2 => ?_⟩))
    · show sn_cp σ1.1 39 0 36 0 (j * 8).toNat 0 8 36 0 k = _
      unfold sn_cp
      rw [if_pos ⟨rfl, rfl, by omega, by omega⟩, tj, Nat.sub_zero]
      exact hF.2 j.toNat st hst k (by omega)
    have v2 : sx_v (s_X (asm T f (ptn st) S)) 0 σ2 := v2
    have f2 : sn_fr (as_P 0) (sn_cp σ1.1 39 0 36 0 (j * 8).toNat 0 8, σ1.2) σ2 := f2
    obtain ⟨-, -, -, -, -, ok, -⟩ := asm_ok hT hf S h8 hmat
    have e11 : σ2.1 9 0 11 = cn_ct ((asm T f (ptn st) S).1 0) (-1) (asm T f (ptn st) S).2.1 := sx_9 v2 (by omega)
    obtain ⟨⟨q1, q2, q3, q4⟩, q5, q6, q7⟩ := hv36
    have nas : ∀ {a b k : Nat}, as_P 0 a b k → a = 37 ∨ a = 38 ∨ (9 ≤ a ∧ a ≤ 18 ∧ b = 0) := fun {a b k} z => by unfold as_P at z; omega
    have hfo2 : fo_v T σ2 := fo_v_fr q1 f2 (fun a k h1 h2 z => by have := nas z; omega)
    have hmt2 : mt_v T σ2 := mt_v_fr q2 f2 (fun a k h1 h2 z => by have := nas z; omega) (fun z => by have := nas z; omega)
    have hmy2 : my_v S0' 0 σ2 := my_v_fr q5.2.1 f2 (fun a k g z => by have := nas z; have := cp_46 g; omega)
    have hs2 : in_s T S1 S1' 1 σ2 := in_s_fr q6 f2 (fun a k h1 h2 z => by have := nas z; omega) (fun a k g z => by have := nas z; have := cp_46 g; omega)
    have hL2 : LSP T σ2 := by
      obtain ⟨-, p2, p3, p4, p5⟩ : ((sn_cp σ1.1 39 0 36 0 (j * 8).toNat 0 8 33 0 8 = (f : Int)) ∧ σ2.1 33 0 8 = (f : Int) ∧ lsA T f σ2 ∧ σ2.1 33 0 12 = ((NL T f).length : Int) ∧ ∀ (t : Nat) (st' : pth), (NL T f)[t]? = some st' → ∀ k, k < 8 → σ2.1 39 0 (8 * t + k) = ptn st' k) := by
        have o2 : ∀ a k, a = 33 ∨ a = 34 ∨ a = 35 ∨ a = 39 → σ2.1 a 0 k = σ1.1 a 0 k := fun a k ha => (f2.2 a 0 k (fun z => by have := nas z; omega)).trans (o36 a 0 k (by omega))
        exact ⟨(o36 33 0 8 (by omega)).trans e8, (o2 33 8 (by omega)).trans e8, lsA_fr hA (fun a k z => o2 a k (by omega)), (o2 33 12 (by omega)).trans hF.1, fun t st' ht k hk => (o2 39 _ (by omega)).trans (hF.2 t st' ht k hk)⟩
      exact Or.inr ⟨f, p2, hf, h8, p3, p4, p5⟩
    refine ⟨_, rfl, fun _ => fun G3 => ?_⟩
    -- then the reference
    have hmc : mt_v T (sn_u σ2.1 40 0 0 0, σ2.2) := mt_v_fr (P := in_q) hmt2 (sn_fr_u (sn_fr_rf _ σ2) q_40 0) (fun a k h1 h2 z => z.2.2.2.1 ⟨h1, h2⟩) (fun z => z.2.2.2.2.1 ⟨rfl, rfl⟩)
    refine md_isLk hmc hT h80 x j _ (fun f' st' σ3 hl hA3 hp3 f3 => And.intro (fun z => absurd z (by decide)) (fun _ => ?_)) (fun σ3 hno f3 => absurd ⟨e, hf, h8, c, hst⟩ (hno f st))
    have ef : f' = f := by have := hl.1; omega
    subst ef
    have es : st' = st := by
      have := hl.2.2.2.2
      rw [hst] at this
      exact (Option.some.inj this).symm
    subst es
    have f3 : sn_fr gt_P (sn_u σ2.1 40 0 0 0, σ2.2) σ3 := f3
    refine And.intro rfl ⟨T, f', 0, ptn st', rfl, by omega, gt_mt hmc f3, hT, h80, e, hf, h8, hmat, hA3, fun k hk => hp3 k (by omega), fun Sr σ4 v4 f4 => ?_⟩
    have v4 : my_v (asm T f' (ptn st') Sr) 0 σ4 := v4
    have f4 : sn_fr (ly_P 0) σ3 σ4 := f4
    have heq := asm_eq T f' (ptn st') S Sr
    have ms4 : my_s T (asm T f' (ptn st') S) (asm T f' (ptn st') Sr) 0 σ4 := ⟨v4, heq, ok⟩
    refine And.intro rfl (And.intro ⟨by omega, ms_ok ms4 (by omega)⟩ ⟨?_, T, asm T f' (ptn st') S, asm T f' (ptn st') Sr, S1, S1', ?_⟩)
    · show some (Sum.inl (cn_ct (fun l => σ4.1 49 0 (60 * 0 + l)) (-1) (σ4.1 46 0 0).toNat)) = some (Sum.inl (σ2.1 9 0 11))
      rw [e11, ms_ct ms4 (-1)]
    · have fr : sn_fr (fun a b k => cp_P 0 a b k ∨ gt_P a b k) σ2 σ4 := sn_fr_t (sn_fr_u (sn_fr_rf _ σ2) (Or.inr (Or.inr q_40)) 0) (sn_fr_t (sn_fr_w f3 (fun a b k z => Or.inr z)) (sn_fr_w f4 (fun a b k z => by
        rcases z with z | z
        · exact Or.inl z
        · exact Or.inr (Or.inr ⟨by omega, by omega, by omega, by omega, by omega, by omega⟩))))
      have c6 : ∀ {a b k t : Nat}, cp_P t a b k → 46 ≤ a ∧ a ≤ 57 := fun {a b k t} q => by
        have hb := q.1
        subst hb
        exact cp_46 q
      have no : ∀ {a b k : Nat}, (cp_P 0 a b k ∨ gt_P a b k) → (46 ≤ a ∧ a ≤ 57) ∨ in_q a b k := fun {a b k} z => by
        rcases z with z | z | z
        · exact Or.inl (c6 z)
        · exact Or.inl (c6 z)
        · exact Or.inr z
      refine ⟨⟨fo_v_fr hfo2 fr (fun a k h1 h2 z => ?_), mt_v_fr hmt2 fr (fun a k h1 h2 z => ?_) (fun z => ?_), hT, h80⟩, ⟨sx_v_fr v2 fr (fun a k h1 h2 z => ?_), v4, heq, ok⟩, in_s_fr hs2 fr (fun a k h1 h2 z => ?_) (fun a k g z => ?_), LSP_F.1 T σ2 σ4 hL2 (fun a b k h1 h2 => fr.2 a b k (fun z => ?_))⟩
      · rcases no z with y | y
        · omega
        · exact y.1 ⟨h1, h2⟩
      · rcases no z with y | y
        · omega
        · exact y.2.2.2.1 ⟨h1, h2⟩
      · rcases no z with y | y
        · omega
        · exact y.2.2.2.2.1 ⟨rfl, rfl⟩
      · rcases no z with y | y
        · omega
        · exact y.2.1 ⟨h1, h2, by omega⟩
      · rcases no z with y | y
        · omega
        · exact y.2.1 ⟨h1, h2, by omega⟩
      · rcases z with y | y | y
        · exact cp_ab y g
        · have := cp_ne g y; omega
        · exact y.2.2.2.2.2 (cp_46 g)
      · rcases no z with y | y
        · omega
        · exact y.2.2.1 ⟨h1, h2⟩
