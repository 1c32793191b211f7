/-! Printed by tools/gen.py: the cells by their kinds, the fields, the words. -/
def T_FO : u_T := fun k => match k with
  | 0 => ("SwitchedNets$Formulas", "kind", "[I", true)
  | 1 => ("SwitchedNets$Formulas", "left", "[I", true)
  | 2 => ("SwitchedNets$Formulas", "right", "[I", true)
  | 3 => ("SwitchedNets$Formulas", "dualOf", "[I", true)
  | 4 => ("SwitchedNets$Formulas", "occurrences", "[I", true)
  | 5 => ("SwitchedNets$Formulas", "isPart", "[Z", true)
  | 6 => ("SwitchedNets$Formulas", "pending", "[I", true)
  | _ => ("SwitchedNets$Formulas", "count", "I", false)
def T_LK : u_T := fun k => match k with
  | 0 => ("SwitchedNets$Likeness", "edgeTo", "[I", true)
  | 1 => ("SwitchedNets$Likeness", "linkTo", "[I", true)
  | 2 => ("SwitchedNets$Likeness", "queue", "[I", true)
  | _ => ("SwitchedNets$Likeness", "queued", "I", false)
def T_LS : u_T := fun k => match k with
  | 0 => ("SwitchedNets$LinkingSearch", "trial", "LSwitchedNets$Structure;", true)
  | 1 => ("SwitchedNets$LinkingSearch", "switchings", "LSwitchedNets$Switchings;", true)
  | 2 => ("SwitchedNets$LinkingSearch", "parts", "[I", true)
  | 3 => ("SwitchedNets$LinkingSearch", "atoms", "[I", true)
  | 4 => ("SwitchedNets$LinkingSearch", "partners", "[I", true)
  | 5 => ("SwitchedNets$LinkingSearch", "atomEdges", "[I", true)
  | 6 => ("SwitchedNets$LinkingSearch", "open", "[I", true)
  | 7 => ("SwitchedNets$LinkingSearch", "found", "[I", true)
  | 8 => ("SwitchedNets$LinkingSearch", "asked", "I", false)
  | 9 => ("SwitchedNets$LinkingSearch", "partCount", "I", false)
  | 10 => ("SwitchedNets$LinkingSearch", "atomCount", "I", false)
  | 11 => ("SwitchedNets$LinkingSearch", "tensorCount", "I", false)
  | _ => ("SwitchedNets$LinkingSearch", "foundCount", "I", false)
def T_PR : u_T := fun k => match k with
  | 0 => ("SwitchedNets$Proof", "row", "[I", true)
  | 1 => ("SwitchedNets$Proof", "waiting", "[J", true)
  | 2 => ("SwitchedNets$Proof", "queue", "[I", true)
  | 3 => ("SwitchedNets$Proof", "queued", "I", false)
  | _ => ("SwitchedNets$Proof", "reached", "J", false)
def T_ST : u_T := fun k => match k with
  | 0 => ("SwitchedNets$Structure", "kind", "[I", true)
  | 1 => ("SwitchedNets$Structure", "left", "[I", true)
  | 2 => ("SwitchedNets$Structure", "right", "[I", true)
  | 3 => ("SwitchedNets$Structure", "edge", "[I", true)
  | 4 => ("SwitchedNets$Structure", "formulaOf", "[I", true)
  | 5 => ("SwitchedNets$Structure", "source", "[I", true)
  | 6 => ("SwitchedNets$Structure", "user", "[I", true)
  | 7 => ("SwitchedNets$Structure", "nameOf", "[I", true)
  | 8 => ("SwitchedNets$Structure", "named", "[I", true)
  | 9 => ("SwitchedNets$Structure", "linksMade", "I", false)
  | 10 => ("SwitchedNets$Structure", "edgesMade", "I", false)
  | 11 => ("SwitchedNets$Structure", "linkCount", "I", false)
  | 12 => ("SwitchedNets$Structure", "parCount", "I", false)
  | 13 => ("SwitchedNets$Structure", "cutCount", "I", false)
  | _ => ("SwitchedNets$Structure", "conclusionCount", "I", false)
def T_SW : u_T := fun k => match k with
  | 0 => ("SwitchedNets$Switchings", "parent", "[[I", true)
  | 1 => ("SwitchedNets$Switchings", "pieces", "[I", true)
  | 2 => ("SwitchedNets$Switchings", "cyclic", "[Z", true)
  | 3 => ("SwitchedNets$Switchings", "pars", "[I", true)
  | _ => ("SwitchedNets$Switchings", "faulty", "I", false)
def T_SN : u_T := fun k => match k with
  | 0 => ("SwitchedNets", "formulas", "LSwitchedNets$Formulas;", true)
  | 1 => ("SwitchedNets", "structure", "LSwitchedNets$Structure;", true)
  | 2 => ("SwitchedNets", "kept", "LSwitchedNets$Structure;", true)
  | 3 => ("SwitchedNets", "spare", "LSwitchedNets$Structure;", true)
  | 4 => ("SwitchedNets", "switchings", "LSwitchedNets$Switchings;", true)
  | 5 => ("SwitchedNets", "proof", "LSwitchedNets$Proof;", true)
  | 6 => ("SwitchedNets", "likeness", "LSwitchedNets$Likeness;", true)
  | _ => ("SwitchedNets", "linkingSearch", "LSwitchedNets$LinkingSearch;", true)
def T_MD : u_T := fun k => match k with
  | 0 => ("SwitchedNetsModel", "code", "I", false)
  | 1 => ("SwitchedNetsModel", "formulas", "I", false)
  | 2 => ("SwitchedNetsModel", "shapes", "[I", true)
  | 3 => ("SwitchedNetsModel", "ones", "[I", true)
  | 4 => ("SwitchedNetsModel", "twos", "[I", true)
  | 5 => ("SwitchedNetsModel", "duals", "[I", true)
  | 6 => ("SwitchedNetsModel", "todo", "[I", true)
  | 7 => ("SwitchedNetsModel", "links", "[I", true)
  | 8 => ("SwitchedNetsModel", "edges", "[I", true)
  | 9 => ("SwitchedNetsModel", "named", "[I", true)
  | 10 => ("SwitchedNetsModel", "kinds", "[I", true)
  | 11 => ("SwitchedNetsModel", "lefts", "[I", true)
  | 12 => ("SwitchedNetsModel", "rights", "[I", true)
  | 13 => ("SwitchedNetsModel", "makes", "[I", true)
  | 14 => ("SwitchedNetsModel", "types", "[I", true)
  | 15 => ("SwitchedNetsModel", "froms", "[I", true)
  | 16 => ("SwitchedNetsModel", "tos", "[I", true)
  | 17 => ("SwitchedNetsModel", "names", "[I", true)
  | 18 => ("SwitchedNetsModel", "conclusions", "[I", true)
  | 19 => ("SwitchedNetsModel", "verdict", "I", false)
  | 20 => ("SwitchedNetsModel", "faultAt", "I", false)
  | 21 => ("SwitchedNetsModel", "roots", "[I", true)
  | 22 => ("SwitchedNetsModel", "proof", "[I", true)
  | 23 => ("SwitchedNetsModel", "pieces", "[J", true)
  | 24 => ("SwitchedNetsModel", "occurrences", "I", false)
  | 25 => ("SwitchedNetsModel", "atoms", "[I", true)
  | 26 => ("SwitchedNetsModel", "partners", "[I", true)
  | 27 => ("SwitchedNetsModel", "walk", "[I", true)
  | _ => ("SwitchedNetsModel", "mapped", "[I", true)
def sn_cl : List vw_C := [("SwitchedNets$Formulas", T_FO, 8), ("SwitchedNets$Likeness", T_LK, 4), ("SwitchedNets$LinkingSearch", T_LS, 13), ("SwitchedNets$Proof", T_PR, 5), ("SwitchedNets$Structure", T_ST, 15), ("SwitchedNets$Switchings", T_SW, 5), ("SwitchedNets", T_SN, 8), ("SwitchedNetsModel", T_MD, 29)]
def sn_K : Nat := 66
def sn_kc (k : Nat) : Nat := (bif Nat.blt k 33 then (bif Nat.blt k 16 then (bif Nat.blt k 8 then (bif Nat.blt k 4 then (bif Nat.blt k 2 then (bif Nat.blt k 1 then 6 else 0) else 100) else (bif Nat.blt k 6 then 100 else (bif Nat.blt k 7 then 100 else 101))) else (bif Nat.blt k 12 then (bif Nat.blt k 10 then (bif Nat.blt k 9 then 100 else 4) else 100) else 100)) else (bif Nat.blt k 24 then (bif Nat.blt k 20 then (bif Nat.blt k 18 then 100 else (bif Nat.blt k 19 then 100 else 5)) else (bif Nat.blt k 22 then (bif Nat.blt k 21 then 103 else 100) else (bif Nat.blt k 23 then 100 else 101))) else (bif Nat.blt k 28 then (bif Nat.blt k 26 then (bif Nat.blt k 25 then 100 else 3) else (bif Nat.blt k 27 then 100 else 102)) else (bif Nat.blt k 30 then (bif Nat.blt k 29 then 100 else 1) else 100)))) else (bif Nat.blt k 49 then (bif Nat.blt k 41 then (bif Nat.blt k 37 then (bif Nat.blt k 35 then (bif Nat.blt k 34 then 2 else 100) else 100) else (bif Nat.blt k 39 then 100 else (bif Nat.blt k 40 then 100 else 7))) else 100) else (bif Nat.blt k 57 then 100 else (bif Nat.blt k 61 then (bif Nat.blt k 59 then 100 else (bif Nat.blt k 60 then 100 else 102)) else (bif Nat.blt k 63 then 100 else (bif Nat.blt k 64 then 100 else (bif Nat.blt k 65 then 100 else 102)))))))
def sn_kn (k : Nat) : Nat := (bif Nat.blt k 33 then (bif Nat.blt k 16 then (bif Nat.blt k 8 then 1 else (bif Nat.blt k 12 then (bif Nat.blt k 10 then (bif Nat.blt k 9 then 1 else 4) else 4) else 4)) else (bif Nat.blt k 24 then (bif Nat.blt k 20 then (bif Nat.blt k 18 then 4 else (bif Nat.blt k 19 then 4 else 2)) else (bif Nat.blt k 22 then (bif Nat.blt k 21 then 2 else 18) else 2)) else (bif Nat.blt k 28 then (bif Nat.blt k 26 then (bif Nat.blt k 25 then 2 else 1) else 1) else 1))) else 1)
def sn_kl (k : Nat) : Nat := (bif Nat.blt k 33 then (bif Nat.blt k 16 then (bif Nat.blt k 8 then (bif Nat.blt k 4 then (bif Nat.blt k 2 then 8 else 80) else 80) else (bif Nat.blt k 12 then (bif Nat.blt k 10 then (bif Nat.blt k 9 then 80 else 15) else 60) else (bif Nat.blt k 14 then 60 else 100))) else (bif Nat.blt k 24 then (bif Nat.blt k 20 then (bif Nat.blt k 18 then 100 else (bif Nat.blt k 19 then 100 else 5)) else (bif Nat.blt k 22 then (bif Nat.blt k 21 then 9 else 60) else 9)) else (bif Nat.blt k 28 then (bif Nat.blt k 26 then (bif Nat.blt k 25 then 8 else 5) else (bif Nat.blt k 27 then 24 else 25)) else (bif Nat.blt k 30 then (bif Nat.blt k 29 then 24 else 4) else (bif Nat.blt k 31 then 100 else (bif Nat.blt k 32 then 60 else 100)))))) else (bif Nat.blt k 49 then (bif Nat.blt k 41 then (bif Nat.blt k 37 then (bif Nat.blt k 35 then (bif Nat.blt k 34 then 13 else 16) else 8) else (bif Nat.blt k 39 then 8 else (bif Nat.blt k 40 then 192 else 29))) else (bif Nat.blt k 45 then 80 else (bif Nat.blt k 47 then (bif Nat.blt k 46 then 100 else 4) else 4))) else (bif Nat.blt k 57 then (bif Nat.blt k 53 then 240 else 400) else (bif Nat.blt k 61 then (bif Nat.blt k 59 then (bif Nat.blt k 58 then 400 else 60) else 60) else (bif Nat.blt k 63 then (bif Nat.blt k 62 then 16 else 8) else (bif Nat.blt k 64 then 200 else (bif Nat.blt k 65 then 100 else 1)))))))
def sn_f0 (j : Nat) : Bool ⊕ (Nat × (Nat → Nat)) := (bif Nat.blt j 4 then (bif Nat.blt j 2 then (bif Nat.blt j 1 then (.inr (1, fun _ => 0)) else (.inr (9, fun _ => 0))) else (bif Nat.blt j 3 then (.inr (9, fun _ => 1)) else (.inr (9, fun _ => 2)))) else (bif Nat.blt j 6 then (bif Nat.blt j 5 then (.inr (19, fun _ => 0)) else (.inr (25, fun _ => 0))) else (bif Nat.blt j 7 then (.inr (29, fun _ => 0)) else (.inr (33, fun _ => 0)))))
def sn_f1 (j : Nat) : Bool ⊕ (Nat × (Nat → Nat)) := (bif Nat.blt j 4 then (bif Nat.blt j 2 then (bif Nat.blt j 1 then (.inr (2, fun i => i)) else (.inr (3, fun i => i))) else (bif Nat.blt j 3 then (.inr (4, fun i => i)) else (.inr (5, fun i => i)))) else (bif Nat.blt j 6 then (bif Nat.blt j 5 then (.inr (6, fun i => i)) else (.inr (7, fun i => i))) else (bif Nat.blt j 7 then (.inr (8, fun i => i)) else (.inl false))))
def sn_f9 (j : Nat) : Bool ⊕ (Nat × (Nat → Nat)) := (bif Nat.blt j 7 then (bif Nat.blt j 3 then (bif Nat.blt j 1 then (.inr (10, fun i => i)) else (bif Nat.blt j 2 then (.inr (11, fun i => i)) else (.inr (12, fun i => i)))) else (bif Nat.blt j 5 then (bif Nat.blt j 4 then (.inr (13, fun i => i)) else (.inr (14, fun i => i))) else (bif Nat.blt j 6 then (.inr (15, fun i => i)) else (.inr (16, fun i => i))))) else (bif Nat.blt j 11 then (bif Nat.blt j 9 then (bif Nat.blt j 8 then (.inr (17, fun i => i)) else (.inr (18, fun i => i))) else (.inl false)) else (.inl false)))
def sn_f19 (j : Nat) : Bool ⊕ (Nat × (Nat → Nat)) := (bif Nat.blt j 2 then (bif Nat.blt j 1 then (.inr (20, fun i => i)) else (.inr (22, fun i => i))) else (bif Nat.blt j 3 then (.inr (23, fun i => i)) else (bif Nat.blt j 4 then (.inr (24, fun i => i)) else (.inl false))))
def sn_f25 (j : Nat) : Bool ⊕ (Nat × (Nat → Nat)) := (bif Nat.blt j 2 then (bif Nat.blt j 1 then (.inr (26, fun i => i)) else (.inr (27, fun i => i))) else (bif Nat.blt j 3 then (.inr (28, fun i => i)) else (bif Nat.blt j 4 then (.inl false) else (.inl true))))
def sn_f29 (j : Nat) : Bool ⊕ (Nat × (Nat → Nat)) := (bif Nat.blt j 2 then (bif Nat.blt j 1 then (.inr (30, fun i => i)) else (.inr (31, fun i => i))) else (bif Nat.blt j 3 then (.inr (32, fun i => i)) else (.inl false)))
def sn_f33 (j : Nat) : Bool ⊕ (Nat × (Nat → Nat)) := (bif Nat.blt j 6 then (bif Nat.blt j 3 then (bif Nat.blt j 1 then (.inr (9, fun _ => 3)) else (bif Nat.blt j 2 then (.inr (19, fun _ => 1)) else (.inr (34, fun i => i)))) else (bif Nat.blt j 4 then (.inr (35, fun i => i)) else (bif Nat.blt j 5 then (.inr (36, fun i => i)) else (.inr (37, fun i => i))))) else (bif Nat.blt j 9 then (bif Nat.blt j 7 then (.inr (38, fun i => i)) else (bif Nat.blt j 8 then (.inr (39, fun i => i)) else (.inl false))) else (.inl false)))
def sn_f40 (j : Nat) : Bool ⊕ (Nat × (Nat → Nat)) := (bif Nat.blt j 14 then (bif Nat.blt j 7 then (bif Nat.blt j 3 then (bif Nat.blt j 1 then (.inl false) else (bif Nat.blt j 2 then (.inl false) else (.inr (41, fun i => i)))) else (bif Nat.blt j 5 then (bif Nat.blt j 4 then (.inr (42, fun i => i)) else (.inr (43, fun i => i))) else (bif Nat.blt j 6 then (.inr (44, fun i => i)) else (.inr (45, fun i => i))))) else (bif Nat.blt j 10 then (bif Nat.blt j 8 then (.inr (46, fun i => i)) else (bif Nat.blt j 9 then (.inr (47, fun i => i)) else (.inr (48, fun i => i)))) else (bif Nat.blt j 12 then (bif Nat.blt j 11 then (.inr (49, fun i => i)) else (.inr (50, fun i => i))) else (bif Nat.blt j 13 then (.inr (51, fun i => i)) else (.inr (52, fun i => i)))))) else (bif Nat.blt j 21 then (bif Nat.blt j 17 then (bif Nat.blt j 15 then (.inr (53, fun i => i)) else (bif Nat.blt j 16 then (.inr (54, fun i => i)) else (.inr (55, fun i => i)))) else (bif Nat.blt j 19 then (bif Nat.blt j 18 then (.inr (56, fun i => i)) else (.inr (57, fun i => i))) else (.inl false))) else (bif Nat.blt j 25 then (bif Nat.blt j 23 then (bif Nat.blt j 22 then (.inr (58, fun i => i)) else (.inr (59, fun i => i))) else (bif Nat.blt j 24 then (.inr (60, fun i => i)) else (.inl false))) else (bif Nat.blt j 27 then (bif Nat.blt j 26 then (.inr (61, fun i => i)) else (.inr (62, fun i => i))) else (bif Nat.blt j 28 then (.inr (63, fun i => i)) else (.inr (64, fun i => i)))))))
def sn_ks (k j : Nat) : Bool ⊕ (Nat × (Nat → Nat)) := (bif Nat.blt k 25 then (bif Nat.blt k 9 then (bif Nat.blt k 1 then (bif Nat.beq k 0 then (sn_f0 j) else (.inl false)) else (bif Nat.beq k 1 then (sn_f1 j) else (.inl false))) else (bif Nat.blt k 19 then (bif Nat.beq k 9 then (sn_f9 j) else (.inl false)) else (bif Nat.beq k 19 then (sn_f19 j) else (.inl false)))) else (bif Nat.blt k 33 then (bif Nat.blt k 29 then (bif Nat.beq k 25 then (sn_f25 j) else (.inl false)) else (bif Nat.beq k 29 then (sn_f29 j) else (.inl false))) else (bif Nat.blt k 40 then (bif Nat.beq k 33 then (sn_f33 j) else (.inl false)) else (bif Nat.beq k 40 then (sn_f40 j) else (.inl false)))))
def sn_ke (_ : Nat) : Nat × (Nat → Nat → Nat) := (21, fun i j => 9 * i + j)
/-! the words: those of the tables that carry over to a callee -/
def sn_ws : List Cond := lw_tbl.filter goodWord
theorem sn_wm {w : Cond} (i : Nat) (h : lw_tbl[i]? = some w) (hg : goodWord w = true) : w ∈ sn_ws := List.mem_filter.mpr ⟨List.mem_of_getElem? h, hg⟩
theorem sn_wg {w : Cond} (h : w ∈ sn_ws) : goodWord w = true := (List.mem_filter.mp h).2
def sn_wk (l : List (Nat × Cond)) : Bool := l.all (fun r => decide (lw_tbl[r.1]? = some r.2) && goodWord r.2)
theorem sn_wu {l : List (Nat × Cond)} (h : sn_wk l = true) (k : Nat) {i : Nat} {w : Cond} (hk : l[k]? = some (i, w)) : w ∈ sn_ws := by
  have h1 := List.all_eq_true.mp h _ (List.mem_of_getElem? hk)
  rw [Bool.and_eq_true] at h1
  exact sn_wm i (of_decide_eq_true h1.1) h1.2
def sn_lk {α : Type} (l : List (Nat × α)) (x : Nat) : Option α := match l with
  | [] => none
  | q :: t => bif Nat.beq x q.1 then some q.2 else sn_lk t x
theorem sn_lk_e {α : Type} (l : List (Nat × α)) : ∀ {x : Nat} {a : α}, sn_lk l x = some a → (x, a) ∈ l := by
  induction l with
  | nil => intro x a h; cases h
  | cons q t ih =>
    intro x a h
    unfold sn_lk at h
    cases hb : Nat.beq x q.1 with
    | true =>
      rw [hb] at h
      have h1 := Nat.eq_of_beq_eq_true hb
      have h2 : q.2 = a := Option.some.inj h
      subst h1; subst h2
      exact List.mem_cons_self
    | false =>
      rw [hb] at h
      exact List.mem_cons_of_mem _ (ih h)
