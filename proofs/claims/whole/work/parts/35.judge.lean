/-! The reference's judgement. -/
theorem sn_u_ov (σ : sn_M) (k i j : Nat) (x : Int) : (sn_u σ.1 k i j x, σ.2) = sn_ov σ k i (sn_up (σ.1 k i) j x) := by
  have h := sn_ov_u σ k i (σ.1 k i) j x
  rw [sn_ov_rf] at h
  exact h
theorem sn_ov_c (σ : sn_M) {k0 i0 k i : Nat} (hne : ¬ (k = k0 ∧ i = i0)) (p : Nat → Int) (j : Nat) (x : Int) : (sn_u (sn_ov σ k0 i0 p).1 k i j x, (sn_ov σ k0 i0 p).2) = sn_ov (sn_u σ.1 k i j x, σ.2) k0 i0 p := by
  refine Prod.ext (funext fun a => funext fun b => funext fun c => ?_) rfl
  show sn_u (sn_ov σ k0 i0 p).1 k i j x a b c = (sn_ov (sn_u σ.1 k i j x, σ.2) k0 i0 p).1 a b c
  by_cases h : a = k0 ∧ b = i0
  · obtain ⟨rfl, rfl⟩ := h
    rw [sn_ov_s, sn_u_n (fun z => hne ⟨z.1.symm, z.2.1.symm⟩), sn_ov_s]
  · rw [sn_ov_n h]
    show sn_u (sn_ov σ k0 i0 p).1 k i j x a b c = sn_u σ.1 k i j x a b c
    by_cases h2 : a = k ∧ b = i ∧ c = j
    · obtain ⟨rfl, rfl, rfl⟩ := h2
      rw [sn_u_s, sn_u_s]
    · rw [sn_u_n h2, sn_u_n h2, sn_ov_n h]
theorem sn_ov_ov (σ : sn_M) (k i : Nat) (p p' : Nat → Int) : sn_ov (sn_ov σ k i p) k i p' = sn_ov σ k i p' := by
  refine Prod.ext (funext fun a => funext fun b => funext fun c => ?_) rfl
  by_cases h : a = k ∧ b = i
  · obtain ⟨rfl, rfl⟩ := h
    rw [sn_ov_s, sn_ov_s]
  · rw [sn_ov_n h, sn_ov_n h, sn_ov_n h]
def md_cp (σ : sn_M) (b : Nat) : Prop := 0 < cn_ct (fun l => σ.1 49 0 (60 * b + l)) (-1) (σ.1 46 0 b).toNat ∧ ∀ e : Nat, (e : Int) < σ.1 47 0 b → ¬ md_f σ b (e : Int)
def sp_MD_isComplete : sn_P := fun vs σ po => match vs with
  | [.inr (.inr q), .inl b] => q = (40, 0) ∧ (0 ≤ b ∧ md_ok σ b.toNat) ∧ ∀ x : Int, (x = 1 ∧ md_cp σ b.toNat) ∨ (x = 0 ∧ ¬ md_cp σ b.toNat) → po (some (.inl x)) σ
  | _ => False
def ca_MD_isComplete : List (Nat × Nat × Nat × sn_P) := [(119, 3, 8, sp_MD_count), (133, 3, 8, sp_MD_isFree)]
theorem co_MD_isComplete : ∀ x n ci s', sn_lk ca_MD_isComplete x = some (n, ci, s') → sn_CO "SwitchedNetsModel" sn_ws 2 x n ci s' := sn_co_of (List.forall_mem_cons.mpr ⟨sn_CO_V ("SwitchedNetsModel", T_MD, 29) ct_MD_count (by decide) (by decide) (sn_gV ml_MD_119 mi_MD_count ms_MD_count mz_MD mc_MD_count) (by decide) rfl rfl ⟨nh_MD.1, nh_MD.2, pn_MD_count⟩, List.forall_mem_cons.mpr ⟨sn_CO_V ("SwitchedNetsModel", T_MD, 29) ct_MD_isFree (by decide) (by decide) (sn_gV ml_MD_133 mi_MD_isFree ms_MD_isFree mz_MD mc_MD_isFree) (by decide) rfl rfl ⟨nh_MD.1, nh_MD.2, pn_MD_isFree⟩, fun _ h => absurd h List.not_mem_nil⟩⟩)
theorem ct_MD_isComplete : sn_CT y_MD_isComplete ws_MD_isComplete 2 sp_MD_isComplete := by
  refine sn_CT_of (pr := pr_MD_isComplete) (fi := (sn_lk ft_MD)) (lc := (sn_lk lc_MD)) (ca := sn_lk ca_MD_isComplete) pl_MD ?_ pk_MD_isComplete FI_MD LC_MD co_MD_isComplete ?_
  · intro vs σ post h
    unfold sp_MD_isComplete at h
    split at h
    · exact Nat.le_of_ble_eq_true rfl
    · exact h.elim
  · intro vs σ post h hvs hR
    unfold sp_MD_isComplete at h
    split at h
    · next q b =>
      obtain ⟨rfl, ⟨hb0, hok⟩, h⟩ := h
      intro G hG
      obtain ⟨bn, rfl⟩ := Int.eq_ofNat_of_zero_le hb0
      have hok : md_ok σ bn := hok
      have hok2 := hok
      obtain ⟨hb4, ⟨hl0, hl1⟩, hn0, hn1⟩ := hok2
      obtain ⟨n, hn⟩ := Int.eq_ofNat_of_zero_le hn0
      have h : ∀ x : Int, (x = 1 ∧ md_cp σ bn) ∨ (x = 0 ∧ ¬ md_cp σ bn) → post (some (.inl x)) σ := h
      have hib : (0 : Int) ≤ (bn : Int) ∧ (bn : Int) < (4 : Nat) := ⟨by omega, by omega⟩
      have loop : ∀ (d i : Nat) (x : Int), n - i = d → i ≤ n → ((x = 1 ∧ (0 < cn_ct (fun l => σ.1 49 0 (60 * bn + l)) (-1) (σ.1 46 0 bn).toNat ∧ ∀ e : Nat, e < i → ¬ md_f σ bn (e : Int))) ∨ (x = 0 ∧ ¬ (0 < cn_ct (fun l => σ.1 49 0 (60 * bn + l)) (-1) (σ.1 46 0 bn).toNat ∧ ∀ e : Nat, e < i → ¬ md_f σ bn (e : Int)))) →
          G 17 [some (.inr (.inr (40, 0))), some (.inl (bn : Int)), some (.inl x), some (.inl (i : Int))] [] σ := by
        intro d
        induction d with
        | zero =>
          intro i x hd hi hx
          have e : i = n := by omega
          subst e
          refine hG 60 [17] _ _ _ _ ?_
          refine And.intro hib (And.intro (fun c1 => ?_) (fun c1 => ?_))
          · have c1 : (i : Int) < σ.1 47 0 bn := c1
            omega
          · have heq : md_cp σ bn ↔ (0 < cn_ct (fun l => σ.1 49 0 (60 * bn + l)) (-1) (σ.1 46 0 bn).toNat ∧ ∀ e : Nat, e < i → ¬ md_f σ bn (e : Int)) :=
              ⟨fun z => ⟨z.1, fun e he => z.2 e (by omega)⟩, fun z => ⟨z.1, fun e he => z.2 e (by omega)⟩⟩
            rcases hx with ⟨rfl, hx⟩ | ⟨rfl, hx⟩
            · exact And.intro (Or.inr rfl) (h 1 (Or.inl ⟨rfl, heq.mpr hx⟩))
            · exact And.intro (Or.inl rfl) (h 0 (Or.inr ⟨rfl, fun z => hx (heq.mp z)⟩))
        | succ d ih =>
          intro i x hd hi hx
          have hr : sn_R ((i : Int) + 1) := ⟨by omega, by omega⟩
          refine hG 60 [17] _ _ _ _ ?_
          refine And.intro hib (And.intro (fun c1 => And.intro (fun c2 => And.intro hr ?_) (fun c2 => And.intro rfl (And.intro ⟨hb0, hok⟩ ?_))) (fun c1 => ?_))
          · rcases hx with ⟨rfl, hx⟩ | ⟨rfl, hx⟩
            · exact absurd c2 (by decide)
            · exact ih (i + 1) 0 (by omega) (by omega) (Or.inr ⟨rfl, fun z => hx ⟨z.1, fun e he => z.2 e (by omega)⟩⟩)
          · rcases hx with ⟨rfl, hx⟩ | ⟨rfl, hx⟩
            · by_cases hf : md_f σ bn (i : Int)
              · rw [show (if md_f σ (Int.toNat (bn : Int)) (i : Int) then (1 : Int) else 0) = 1 from if_pos hf]
                exact And.intro (fun z => absurd z (by decide)) (fun _ => And.intro hr (ih (i + 1) 0 (by omega) (by omega) (Or.inr ⟨rfl, fun z => z.2 i (by omega) hf⟩)))
              · rw [show (if md_f σ (Int.toNat (bn : Int)) (i : Int) then (1 : Int) else 0) = 0 from if_neg hf]
                refine And.intro (fun _ => And.intro hr (ih (i + 1) 1 (by omega) (by omega) (Or.inl ⟨rfl, hx.1, fun e he => ?_⟩))) (fun z => absurd rfl z)
                by_cases hei : e = i
                · subst hei; exact hf
                · exact hx.2 e (by omega)
            · exact absurd rfl c2
          · have c1 : σ.1 47 0 bn ≤ (i : Int) := c1
            omega
      refine hG 60 [17] _ _ _ _ ?_
      refine And.intro rfl (And.intro ⟨hb0, hok⟩ (And.intro (fun c1 => ?_) (fun c1 => ?_)))
      · have c1 : cn_ct (fun l => σ.1 49 0 (60 * bn + l)) (-1) (σ.1 46 0 bn).toNat ≤ 0 := c1
        exact loop n 0 0 (by omega) (by omega) (Or.inr ⟨rfl, fun z => by have := z.1; omega⟩)
      · exact loop n 0 1 (by omega) (by omega) (Or.inl ⟨rfl, c1, fun e he => by omega⟩)
    · exact h.elim
/-- the first switching below n of which g says x -/
def jd_f (g : Nat → Int) (x : Int) (n : Nat) : Int := match n with
  | 0 => -1
  | n + 1 => if g n = x ∧ jd_f g x n < 0 then (n : Int) else jd_f g x n
theorem jd_f_s (g : Nat → Int) (x : Int) (n : Nat) : jd_f g x (n + 1) = if g n = x ∧ jd_f g x n < 0 then (n : Int) else jd_f g x n := rfl
def md_g (σ : sn_M) (b : Nat) (s : Nat) : Int := gr_v (md_E σ b (s : Int) (σ.1 47 0 b).toNat) (cn_ct (fun l => σ.1 49 0 (60 * b + l)) (-1) (σ.1 46 0 b).toNat)
def md_all (σ : sn_M) (b : Nat) : Nat := 2 ^ (cn_ct (fun l => σ.1 49 0 (60 * b + l)) 2 (σ.1 46 0 b).toNat).toNat
def md_v (σ : sn_M) (b : Nat) : Int := if 0 ≤ jd_f (md_g σ b) 1 (md_all σ b) then 1 else if 0 ≤ jd_f (md_g σ b) 2 (md_all σ b) then 2 else 0
def md_fa (σ : sn_M) (b : Nat) : Int := if 0 ≤ jd_f (md_g σ b) 1 (md_all σ b) then jd_f (md_g σ b) 1 (md_all σ b) else jd_f (md_g σ b) 2 (md_all σ b)
def sp_MD_judgeAll : sn_P := fun vs σ po => match vs with
  | [.inr (.inr q), .inl b] => q = (40, 0) ∧ (0 ≤ b ∧ gr_in σ b.toNat ∧ cn_ct (fun l => σ.1 49 0 (60 * b.toNat + l)) 2 (σ.1 46 0 b.toNat).toNat ≤ 8) ∧ ∀ (v f : Int) (p : Nat → Int), (md_cp σ b.toNat ∧ v = md_v σ b.toNat ∧ f = md_fa σ b.toNat) ∨ (¬ md_cp σ b.toNat ∧ v = 3 ∧ f = -1) → po none (sn_ov (sn_ov σ 40 0 (sn_up (sn_up (σ.1 40 0) 19 v) 20 f)) 58 0 p)
  | _ => False
theorem sn_up_up (p : Nat → Int) (a : Nat) (x y : Int) : sn_up (sn_up p a x) a y = sn_up p a y := by
  funext t
  unfold sn_up
  split <;> rfl
theorem sn_up_c (p : Nat → Int) {a b : Nat} (h : a ≠ b) (x y : Int) : sn_up (sn_up p a x) b y = sn_up (sn_up p b y) a x := by
  funext t
  unfold sn_up
  by_cases h1 : t = b
  · rw [if_pos h1, if_neg (fun z => h (z.symm.trans h1)), if_pos h1]
  · rw [if_neg h1]
    by_cases h2 : t = a
    · rw [if_pos h2, if_pos h2]
    · rw [if_neg h2, if_neg h2, if_neg h1]
def ca_MD_judgeAll : List (Nat × Nat × Nat × sn_P) := [(119, 3, 8, sp_MD_count), (160, 2, 8, sp_MD_isComplete), (163, 3, 8, sp_MD_graph)]
theorem co_MD_judgeAll : ∀ x n ci s', sn_lk ca_MD_judgeAll x = some (n, ci, s') → sn_CO "SwitchedNetsModel" sn_ws 3 x n ci s' := sn_co_of (List.forall_mem_cons.mpr ⟨sn_CO_V ("SwitchedNetsModel", T_MD, 29) ct_MD_count (by decide) (by decide) (sn_gV ml_MD_119 mi_MD_count ms_MD_count mz_MD mc_MD_count) (by decide) rfl rfl ⟨nh_MD.1, nh_MD.2, pn_MD_count⟩, List.forall_mem_cons.mpr ⟨sn_CO_V ("SwitchedNetsModel", T_MD, 29) ct_MD_isComplete (by decide) (by decide) (sn_gV ml_MD_160 mi_MD_isComplete ms_MD_isComplete mz_MD mc_MD_isComplete) (by decide) rfl rfl ⟨nh_MD.1, nh_MD.2, pn_MD_isComplete⟩, List.forall_mem_cons.mpr ⟨sn_CO_V ("SwitchedNetsModel", T_MD, 29) ct_MD_graph (by decide) (by decide) (sn_gV ml_MD_163 mi_MD_graph ms_MD_graph mz_MD mc_MD_graph) (by decide) rfl rfl ⟨nh_MD.1, nh_MD.2, pn_MD_graph⟩, fun _ h => absurd h List.not_mem_nil⟩⟩⟩)
theorem ct_MD_judgeAll : sn_CT y_MD_judgeAll ws_MD_judgeAll 3 sp_MD_judgeAll := by
  refine sn_CT_of (pr := pr_MD_judgeAll) (fi := (sn_lk ft_MD)) (lc := (sn_lk lc_MD)) (ca := sn_lk ca_MD_judgeAll) pl_MD ?_ pk_MD_judgeAll FI_MD LC_MD co_MD_judgeAll ?_
  · intro vs σ post h
    unfold sp_MD_judgeAll at h
    split at h
    · exact Nat.le_of_ble_eq_true rfl
    · exact h.elim
  · intro vs σ post h hvs hR
    unfold sp_MD_judgeAll at h
    split at h
    · next q b =>
      obtain ⟨rfl, ⟨hb0, hin, hP8⟩, h⟩ := h
      intro G hG
      obtain ⟨bn, rfl⟩ := Int.eq_ofNat_of_zero_le hb0
      have hin : gr_in σ bn := hin
      have hok := hin.1
      have hP8 : cn_ct (fun l => σ.1 49 0 (60 * bn + l)) 2 (σ.1 46 0 bn).toNat ≤ 8 := hP8
      have h : ∀ (v f : Int) (p : Nat → Int), (md_cp σ bn ∧ v = md_v σ bn ∧ f = md_fa σ bn) ∨ (¬ md_cp σ bn ∧ v = 3 ∧ f = -1) → post none (sn_ov (sn_ov σ 40 0 (sn_up (sn_up (σ.1 40 0) 19 v) 20 f)) 58 0 p) := h
      have hPb := cn_ct_b (fun l => σ.1 49 0 (60 * bn + l)) 2 (σ.1 46 0 bn).toNat
      have hall : md_all σ bn ≤ 256 := by
        unfold md_all
        have : 2 ^ (cn_ct (fun l => σ.1 49 0 (60 * bn + l)) 2 (σ.1 46 0 bn).toNat).toNat ≤ 2 ^ 8 := Nat.pow_le_pow_right (by decide) (by omega)
        omega
      have eall : (1 : Int) * 2 ^ (cn_ct (fun l => σ.1 49 0 (60 * bn + l)) 2 (σ.1 46 0 bn).toNat).toNat = ((md_all σ bn : Nat) : Int) := by
        unfold md_all
        rw [Int.one_mul, Int.natCast_pow]
        rfl
      -- the memory while the switchings are gone through
      have fin : ∀ (p : Nat → Int), md_cp σ bn → ∀ (v f : Int), v = md_v σ bn → f = md_fa σ bn → post none (sn_u (sn_u (sn_ov (sn_ov σ 40 0 (sn_up (sn_up (σ.1 40 0) 19 3) 20 (-1))) 58 0 p).1 40 0 19 v) 40 0 20 f, (sn_ov (sn_ov σ 40 0 (sn_up (sn_up (σ.1 40 0) 19 3) 20 (-1))) 58 0 p).2) := by
        intro p hcp v f hv hf
        have h1 := h v f p (Or.inl ⟨hcp, hv, hf⟩)
        have e1 : (sn_u (sn_ov (sn_ov σ 40 0 (sn_up (sn_up (σ.1 40 0) 19 3) 20 (-1))) 58 0 p).1 40 0 19 v, (sn_ov (sn_ov σ 40 0 (sn_up (sn_up (σ.1 40 0) 19 3) 20 (-1))) 58 0 p).2) = sn_ov (sn_ov σ 40 0 (sn_up (sn_up (sn_up (σ.1 40 0) 19 3) 20 (-1)) 19 v)) 58 0 p := by
          rw [sn_ov_c _ (by decide), sn_ov_u]
        have e2 : (sn_u (sn_ov (sn_ov σ 40 0 (sn_up (sn_up (sn_up (σ.1 40 0) 19 3) 20 (-1)) 19 v)) 58 0 p).1 40 0 20 f, (sn_ov (sn_ov σ 40 0 (sn_up (sn_up (sn_up (σ.1 40 0) 19 3) 20 (-1)) 19 v)) 58 0 p).2) = sn_ov (sn_ov σ 40 0 (sn_up (sn_up (σ.1 40 0) 19 v) 20 f)) 58 0 p := by
          rw [sn_ov_c _ (by decide), sn_ov_u]
          congr 2
          rw [sn_up_c (sn_up (σ.1 40 0) 19 3) (by decide), sn_up_up, sn_up_up]
        rw [← e2, ← e1] at h1
        exact h1
      have loop : md_cp σ bn → ∀ (d i : Nat) (p : Nat → Int) (o6 : Option sn_V), md_all σ bn - i = d → i ≤ md_all σ bn →
          G 36 [some (.inr (.inr (40, 0))), some (.inl (bn : Int)), some (.inl (jd_f (md_g σ bn) 1 i)), some (.inl (jd_f (md_g σ bn) 2 i)), some (.inl ((md_all σ bn : Nat) : Int)), some (.inl (i : Int)), o6] [] (sn_ov (sn_ov σ 40 0 (sn_up (sn_up (σ.1 40 0) 19 3) 20 (-1))) 58 0 p) := by
        intro hcp d
        induction d with
        | zero =>
          intro i p o6 hd hi
          have e : i = md_all σ bn := by omega
          have ff := fin p hcp
          unfold md_v md_fa at ff
          rw [← e] at ff ⊢
          refine hG 90 [36] _ _ _ _ ?_
          refine And.intro (fun c1 => absurd c1 (by show ¬ ((i : Int) < (i : Int)); omega)) (fun _ => And.intro (fun c2 => And.intro (fun c3 => And.intro (fun c4 => ?_) (fun c4 => ?_)) (fun c3 => And.intro (fun c4 => ?_) (fun c4 => ?_))) (fun c2 => And.intro (fun c4 => ?_) (fun c4 => ?_)))
          · have c2 : jd_f (md_g σ bn) 1 i < 0 := c2
            have c3 : jd_f (md_g σ bn) 2 i < 0 := c3
            rw [if_neg (by omega), if_neg (by omega), if_neg (by omega)] at ff
            exact ff _ _ rfl rfl
          · have c2 : jd_f (md_g σ bn) 1 i < 0 := c2
            have c4 : 0 ≤ jd_f (md_g σ bn) 1 i := c4
            omega
          · have c2 : jd_f (md_g σ bn) 1 i < 0 := c2
            have c3 : 0 ≤ jd_f (md_g σ bn) 2 i := c3
            rw [if_neg (by omega), if_pos c3, if_neg (by omega)] at ff
            exact ff _ _ rfl rfl
          · have c2 : jd_f (md_g σ bn) 1 i < 0 := c2
            have c4 : 0 ≤ jd_f (md_g σ bn) 1 i := c4
            omega
          · have c2 : 0 ≤ jd_f (md_g σ bn) 1 i := c2
            have c4 : jd_f (md_g σ bn) 1 i < 0 := c4
            omega
          · have c2 : 0 ≤ jd_f (md_g σ bn) 1 i := c2
            rw [if_pos c2, if_pos c2] at ff
            exact ff _ _ rfl rfl
        | succ d ih =>
          intro i p o6 hd hi
          have hr : sn_R ((i : Int) + 1) := ⟨by omega, by omega⟩
          have go : ∀ (x y : Int) (p' : Nat → Int) (o6 : Option sn_V), x = jd_f (md_g σ bn) 1 (i + 1) → y = jd_f (md_g σ bn) 2 (i + 1) → G 36 [some (.inr (.inr (40, 0))), some (.inl (bn : Int)), some (.inl x), some (.inl y), some (.inl ((md_all σ bn : Nat) : Int)), some (.inl ((i : Int) + 1)), o6] [] (sn_ov (sn_ov σ 40 0 (sn_up (sn_up (σ.1 40 0) 19 3) 20 (-1))) 58 0 p') := by
            intro x y p' o6 hx hy
            subst hx; subst hy
            exact ih (i + 1) p' o6 (by omega) (by omega)
          refine hG 90 [36] _ _ _ _ ?_
          refine And.intro (fun c1 => And.intro rfl (And.intro ⟨hb0, hin⟩ (fun p' => ?_))) (fun c1 => ?_)
          · rw [sn_ov_ov]
            have eg : gr_v (md_E (sn_ov (sn_ov σ 40 0 (sn_up (sn_up (σ.1 40 0) 19 3) 20 (-1))) 58 0 p) (Int.toNat (bn : Int)) (i : Int) ((sn_ov (sn_ov σ 40 0 (sn_up (sn_up (σ.1 40 0) 19 3) 20 (-1))) 58 0 p).1 47 0 (Int.toNat (bn : Int))).toNat) (cn_ct (fun l => (sn_ov (sn_ov σ 40 0 (sn_up (sn_up (σ.1 40 0) 19 3) 20 (-1))) 58 0 p).1 49 0 (60 * (Int.toNat (bn : Int)) + l)) (-1) ((sn_ov (sn_ov σ 40 0 (sn_up (sn_up (σ.1 40 0) 19 3) 20 (-1))) 58 0 p).1 46 0 (Int.toNat (bn : Int))).toNat) = md_g σ bn i := rfl
            rw [eg]
            have s1 := jd_f_s (md_g σ bn) 1 i
            have s2 := jd_f_s (md_g σ bn) 2 i
            generalize md_g σ bn i = gv at s1 s2 ⊢
            refine And.intro (fun c2 => And.intro (fun c3 => And.intro (fun c4 => ?_) (fun c4 => And.intro hr (go _ _ _ _ ?_ ?_))) (fun c3 => And.intro (fun c4 => ?_) (fun c4 => And.intro hr (go _ _ _ _ ?_ ?_)))) (fun c2 => And.intro (fun c4 => And.intro (fun c5 => And.intro hr (go _ _ _ _ ?_ ?_)) (fun c5 => And.intro hr (go _ _ _ _ ?_ ?_))) (fun c4 => And.intro hr (go _ _ _ _ ?_ ?_)))
            · have c2 : gv = 1 := c2
              have c4 : gv = 2 := c4
              omega
            · have c2 : gv = 1 := c2
              have c3 : jd_f (md_g σ bn) 1 i < 0 := c3
              rw [s1, if_pos ⟨c2, c3⟩]
            · have c4 : ¬ gv = 2 := c4
              rw [s2, if_neg (fun z => c4 z.1)]
            · have c2 : gv = 1 := c2
              have c4 : gv = 2 := c4
              omega
            · have c3 : 0 ≤ jd_f (md_g σ bn) 1 i := c3
              rw [s1, if_neg (fun z => by have := z.2; omega)]
            · have c4 : ¬ gv = 2 := c4
              rw [s2, if_neg (fun z => c4 z.1)]
            · have c2 : ¬ gv = 1 := c2
              rw [s1, if_neg (fun z => c2 z.1)]
            · have c4 : gv = 2 := c4
              have c5 : jd_f (md_g σ bn) 2 i < 0 := c5
              rw [s2, if_pos ⟨c4, c5⟩]
            · have c2 : ¬ gv = 1 := c2
              rw [s1, if_neg (fun z => c2 z.1)]
            · have c5 : 0 ≤ jd_f (md_g σ bn) 2 i := c5
              rw [s2, if_neg (fun z => by have := z.2; omega)]
            · have c2 : ¬ gv = 1 := c2
              rw [s1, if_neg (fun z => c2 z.1)]
            · have c4 : ¬ gv = 2 := c4
              rw [s2, if_neg (fun z => c4 z.1)]
          · have c1 : ((md_all σ bn : Nat) : Int) ≤ (i : Int) := c1
            omega
      refine hG 90 [36] _ _ _ _ ?_
      refine And.intro rfl (And.intro ⟨hb0, hok⟩ (fun x hx => And.intro (fun c1 => ?_) (fun c1 => ?_)))
      · rcases hx with ⟨rfl, hcp⟩ | ⟨rfl, hcp⟩
        · exact absurd c1 (by decide)
        · have h1 := h 3 (-1) (σ.1 58 0) (Or.inr ⟨hcp, rfl, rfl⟩)
          have e0 : sn_ov (sn_ov σ 40 0 (sn_up (sn_up (σ.1 40 0) 19 3) 20 (-1))) 58 0 (σ.1 58 0) = sn_ov σ 40 0 (sn_up (sn_up (σ.1 40 0) 19 3) 20 (-1)) := sn_ov_rf (sn_ov σ 40 0 (sn_up (sn_up (σ.1 40 0) 19 3) 20 (-1))) 58 0
          rw [e0, ← sn_ov_u, ← sn_u_ov] at h1
          exact h1
      · rcases hx with ⟨rfl, hcp⟩ | ⟨rfl, hcp⟩
        · refine And.intro rfl (And.intro ⟨hb0, hok⟩ (And.intro ⟨hPb.1, by show cn_ct (fun l => σ.1 49 0 (60 * bn + l)) 2 (σ.1 46 0 bn).toNat < 32; omega, ?_⟩ ?_))
          · show sn_R ((1 : Int) * 2 ^ (cn_ct (fun l => σ.1 49 0 (60 * bn + l)) 2 (σ.1 46 0 bn).toNat).toNat)
            rw [eall]
            exact ⟨by omega, by omega⟩
          · have hl := loop hcp (md_all σ bn) 0 (σ.1 58 0) none (by omega) (by omega)
            have e0 : sn_ov (sn_ov σ 40 0 (sn_up (sn_up (σ.1 40 0) 19 3) 20 (-1))) 58 0 (σ.1 58 0) = sn_ov σ 40 0 (sn_up (sn_up (σ.1 40 0) 19 3) 20 (-1)) := sn_ov_rf (sn_ov σ 40 0 (sn_up (sn_up (σ.1 40 0) 19 3) 20 (-1))) 58 0
            rw [e0, ← sn_ov_u, ← sn_u_ov, ← eall] at hl
            exact hl
        · exact absurd rfl c1
    · exact h.elim
