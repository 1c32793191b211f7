/-! Printed by tools/asm.py: the cells behind the constructors are the world. -/
def sg_0 : sn_M := (fun k _ j => bif (Nat.beq k 19 && Nat.beq j 4) || (Nat.beq k 33 && Nat.beq j 8) then -1 else 0, fun _ _ _ => 0)
def lw_W (dA : Nat → ClassId) (q1 : Nat) (u1 : Nat → Nat) (q2 : Nat) (u2 : Nat → Nat) (q3 : Nat) : va_W := (w1_SN dA q1 u1 ++ w1_MD dA q2 u2) ++ nw_e q3 (dA 2) (1, .inr (.inl (fun _ => 0)))
def lw_ad (q1 : Nat) (u1 : Nat → Nat) (q2 : Nat) (u2 : Nat → Nat) (q3 : Nat) : sn_A := fun k i => (bif Nat.blt k 33 then ((bif Nat.blt k 16 then ((bif Nat.blt k 8 then ((bif Nat.blt k 4 then ((bif Nat.blt k 2 then ((bif Nat.blt k 1 then ((fun _ => q1) i) else ((fun _ => u1 0) i))) else ((bif Nat.blt k 3 then ((fun _ => u1 1) i) else ((fun _ => u1 2) i))))) else ((bif Nat.blt k 6 then ((bif Nat.blt k 5 then ((fun _ => u1 3) i) else ((fun _ => u1 4) i))) else ((bif Nat.blt k 7 then ((fun _ => u1 5) i) else ((fun _ => u1 6) i))))))) else ((bif Nat.blt k 12 then ((bif Nat.blt k 10 then ((bif Nat.blt k 9 then ((fun _ => u1 7) i) else ((fun i => (bif Nat.beq i 0 then u1 8 else (bif Nat.beq i 1 then u1 18 else (bif Nat.beq i 2 then u1 28 else u1 52)))) i))) else ((bif Nat.blt k 11 then ((fun i => (bif Nat.beq i 0 then u1 9 else (bif Nat.beq i 1 then u1 19 else (bif Nat.beq i 2 then u1 29 else u1 53)))) i) else ((fun i => (bif Nat.beq i 0 then u1 10 else (bif Nat.beq i 1 then u1 20 else (bif Nat.beq i 2 then u1 30 else u1 54)))) i))))) else ((bif Nat.blt k 14 then ((bif Nat.blt k 13 then ((fun i => (bif Nat.beq i 0 then u1 11 else (bif Nat.beq i 1 then u1 21 else (bif Nat.beq i 2 then u1 31 else u1 55)))) i) else ((fun i => (bif Nat.beq i 0 then u1 12 else (bif Nat.beq i 1 then u1 22 else (bif Nat.beq i 2 then u1 32 else u1 56)))) i))) else ((bif Nat.blt k 15 then ((fun i => (bif Nat.beq i 0 then u1 13 else (bif Nat.beq i 1 then u1 23 else (bif Nat.beq i 2 then u1 33 else u1 57)))) i) else ((fun i => (bif Nat.beq i 0 then u1 14 else (bif Nat.beq i 1 then u1 24 else (bif Nat.beq i 2 then u1 34 else u1 58)))) i))))))))) else ((bif Nat.blt k 24 then ((bif Nat.blt k 20 then ((bif Nat.blt k 18 then ((bif Nat.blt k 17 then ((fun i => (bif Nat.beq i 0 then u1 15 else (bif Nat.beq i 1 then u1 25 else (bif Nat.beq i 2 then u1 35 else u1 59)))) i) else ((fun i => (bif Nat.beq i 0 then u1 16 else (bif Nat.beq i 1 then u1 26 else (bif Nat.beq i 2 then u1 36 else u1 60)))) i))) else ((bif Nat.blt k 19 then ((fun i => (bif Nat.beq i 0 then u1 17 else (bif Nat.beq i 1 then u1 27 else (bif Nat.beq i 2 then u1 37 else u1 61)))) i) else ((fun i => (bif Nat.beq i 0 then u1 38 else u1 62)) i))))) else ((bif Nat.blt k 22 then ((bif Nat.blt k 21 then ((fun i => (bif Nat.beq i 0 then u1 39 else u1 63)) i) else ((fun n => bif Nat.blt n 9 then u1 39 + 1 + n else u1 63 + 1 + (n - 9)) i))) else ((bif Nat.blt k 23 then ((fun i => (bif Nat.beq i 0 then u1 40 else u1 64)) i) else ((fun i => (bif Nat.beq i 0 then u1 41 else u1 65)) i))))))) else ((bif Nat.blt k 28 then ((bif Nat.blt k 26 then ((bif Nat.blt k 25 then ((fun i => (bif Nat.beq i 0 then u1 42 else u1 66)) i) else ((fun _ => u1 43) i))) else ((bif Nat.blt k 27 then ((fun _ => u1 44) i) else ((fun _ => u1 45) i))))) else ((bif Nat.blt k 30 then ((bif Nat.blt k 29 then ((fun _ => u1 46) i) else ((fun _ => u1 47) i))) else ((bif Nat.blt k 31 then ((fun _ => u1 48) i) else ((bif Nat.blt k 32 then ((fun _ => u1 49) i) else ((fun _ => u1 50) i))))))))))))) else ((bif Nat.blt k 49 then ((bif Nat.blt k 41 then ((bif Nat.blt k 37 then ((bif Nat.blt k 35 then ((bif Nat.blt k 34 then ((fun _ => u1 51) i) else ((fun _ => u1 67) i))) else ((bif Nat.blt k 36 then ((fun _ => u1 68) i) else ((fun _ => u1 69) i))))) else ((bif Nat.blt k 39 then ((bif Nat.blt k 38 then ((fun _ => u1 70) i) else ((fun _ => u1 71) i))) else ((bif Nat.blt k 40 then ((fun _ => u1 72) i) else ((fun _ => q2) i))))))) else ((bif Nat.blt k 45 then ((bif Nat.blt k 43 then ((bif Nat.blt k 42 then ((fun _ => u2 0) i) else ((fun _ => u2 1) i))) else ((bif Nat.blt k 44 then ((fun _ => u2 2) i) else ((fun _ => u2 3) i))))) else ((bif Nat.blt k 47 then ((bif Nat.blt k 46 then ((fun _ => u2 4) i) else ((fun _ => u2 5) i))) else ((bif Nat.blt k 48 then ((fun _ => u2 6) i) else ((fun _ => u2 7) i))))))))) else ((bif Nat.blt k 57 then ((bif Nat.blt k 53 then ((bif Nat.blt k 51 then ((bif Nat.blt k 50 then ((fun _ => u2 8) i) else ((fun _ => u2 9) i))) else ((bif Nat.blt k 52 then ((fun _ => u2 10) i) else ((fun _ => u2 11) i))))) else ((bif Nat.blt k 55 then ((bif Nat.blt k 54 then ((fun _ => u2 12) i) else ((fun _ => u2 13) i))) else ((bif Nat.blt k 56 then ((fun _ => u2 14) i) else ((fun _ => u2 15) i))))))) else ((bif Nat.blt k 61 then ((bif Nat.blt k 59 then ((bif Nat.blt k 58 then ((fun _ => u2 16) i) else ((fun _ => u2 17) i))) else ((bif Nat.blt k 60 then ((fun _ => u2 18) i) else ((fun _ => u2 19) i))))) else ((bif Nat.blt k 63 then ((bif Nat.blt k 62 then ((fun _ => u2 20) i) else ((fun _ => u2 21) i))) else ((bif Nat.blt k 64 then ((fun _ => u2 22) i) else ((bif Nat.blt k 65 then ((fun _ => u2 23) i) else ((fun _ => q3) i))))))))))))))
def lw_pl : List Nat := [0, 1, 2, 3, 4, 5, 6, 7, 8, 9, 19, 29, 62, 10, 20, 30, 63, 11, 21, 31, 64, 12, 22, 32, 65, 13, 23, 33, 66, 14, 24, 34, 67, 15, 25, 35, 68, 16, 26, 36, 69, 17, 27, 37, 70, 18, 28, 38, 71, 39, 72, 40, 73, 41, 42, 43, 44, 45, 46, 47, 48, 49, 74, 75, 76, 77, 78, 79, 80, 81, 82, 50, 83, 51, 84, 52, 85, 53, 54, 55, 56, 57, 58, 59, 60, 61, 86, 87, 88, 89, 90, 91, 92, 93, 94, 95, 96, 97, 98, 99, 100, 101, 102, 103, 104, 105, 106, 107, 108, 109, 110, 111, 112, 113, 114, 115, 116, 117]
theorem lw_ps : sn_ps = [(0, 0), (1, 0), (2, 0), (3, 0), (4, 0), (5, 0), (6, 0), (7, 0), (8, 0), (9, 0), (9, 1), (9, 2), (9, 3), (10, 0), (10, 1), (10, 2), (10, 3), (11, 0), (11, 1), (11, 2), (11, 3), (12, 0), (12, 1), (12, 2), (12, 3), (13, 0), (13, 1), (13, 2), (13, 3), (14, 0), (14, 1), (14, 2), (14, 3), (15, 0), (15, 1), (15, 2), (15, 3), (16, 0), (16, 1), (16, 2), (16, 3), (17, 0), (17, 1), (17, 2), (17, 3), (18, 0), (18, 1), (18, 2), (18, 3), (19, 0), (19, 1), (20, 0), (20, 1), (21, 0), (21, 1), (21, 2), (21, 3), (21, 4), (21, 5), (21, 6), (21, 7), (21, 8), (21, 9), (21, 10), (21, 11), (21, 12), (21, 13), (21, 14), (21, 15), (21, 16), (21, 17), (22, 0), (22, 1), (23, 0), (23, 1), (24, 0), (24, 1), (25, 0), (26, 0), (27, 0), (28, 0), (29, 0), (30, 0), (31, 0), (32, 0), (33, 0), (34, 0), (35, 0), (36, 0), (37, 0), (38, 0), (39, 0), (40, 0), (41, 0), (42, 0), (43, 0), (44, 0), (45, 0), (46, 0), (47, 0), (48, 0), (49, 0), (50, 0), (51, 0), (52, 0), (53, 0), (54, 0), (55, 0), (56, 0), (57, 0), (58, 0), (59, 0), (60, 0), (61, 0), (62, 0), (63, 0), (64, 0), (65, 0)] := by decide +kernel
theorem lw_Dp {A : Nat → Prop} {W1 ws : va_W} (pl : List Nat) (hD : va_D A W1) (hl : ∀ n ∈ pl, n < W1.length) (hn : va_nd pl = true) (he : ws.map (fun q => q.1) = pl.map (fun n => (W1.map (fun q => q.1)).getD n 0)) : va_D A ws := by
  have key : ∀ (k : Nat) (q : Nat × va_E), ws[k]? = some q → ∃ n r, pl[k]? = some n ∧ W1[n]? = some r ∧ q.1 = r.1 := by
    intro k q hk
    have h1 : (ws.map (fun q => q.1))[k]? = some q.1 := by rw [List.getElem?_map, hk]; rfl
    rw [he, List.getElem?_map] at h1
    obtain ⟨n, hn1, hn2⟩ := Option.map_eq_some_iff.mp h1
    have hlt := hl n (List.mem_of_getElem? hn1)
    refine ⟨n, W1[n], hn1, List.getElem?_eq_getElem hlt, ?_⟩
    rw [← hn2, List.getD_eq_getElem?_getD, List.getElem?_map, List.getElem?_eq_getElem hlt]
    rfl
  refine ⟨fun i j p q hp hq hpq => ?_, fun k q hk => ?_⟩
  · obtain ⟨n1, r1, a1, a2, a3⟩ := key i p hp
    obtain ⟨n2, r2, b1, b2, b3⟩ := key j q hq
    have : n1 = n2 := hD.1 n1 n2 r1 r2 a2 b2 (by rw [← a3, ← b3]; exact hpq)
    subst this
    exact va_nd_inj pl hn i j n1 a1 b1
  · obtain ⟨n, r, -, h2, h3⟩ := key k q hk
    rw [h3]
    exact hD.2 n r h2
set_option maxRecDepth 100000 in
set_option maxHeartbeats 2000000 in
theorem lw_D0 {A : Nat → Prop} {dA : Nat → ClassId} {q1 q2 q3 : Nat} {u1 u2 : Nat → Nat} (hD : va_D A (lw_W dA q1 u1 q2 u2 q3)) : va_D A (sn_wd dA (lw_ad q1 u1 q2 u2 q3) sg_0) := by
  refine lw_Dp lw_pl hD (fun n hn => ?_) (by decide +kernel) ?_
  · show n < 118
    exact (by decide +kernel : ∀ n ∈ lw_pl, n < 118) n hn
  · unfold sn_wd
    rw [lw_ps]
    rfl
theorem lw_tb {D : va_G} {H : Heap} {d : ClassId} {q : Nat} {f g : Nat → Option Nat} (h : ∀ j, j < 9 → f j = g j) (hP : va_at D sn_cl (q, .inl (d, 9, .inr (.inr (.inr (.inr f))))) H) : va_at D sn_cl (q, .inl (d, 9, .inr (.inr (.inr (.inr g))))) H := by
  have hP : H[q]? = some (arrV d 9 (fun j => va_rf (f j))) := hP
  show H[q]? = some (arrV d 9 (fun j => va_rf (g j)))
  rw [hP]
  exact congrArg some (nw_gc (fun j hj => by rw [h j hj]))
set_option maxRecDepth 100000 in
set_option maxHeartbeats 2000000 in
theorem lw_P0 {D : va_G} {H : Heap} {dA : Nat → ClassId} {q1 q2 q3 : Nat} {u1 u2 : Nat → Nat} (hP : va_P D sn_cl (lw_W dA q1 u1 q2 u2 q3) H) : ∀ x ∈ ([(0, 0), (1, 0), (2, 0), (3, 0), (4, 0), (5, 0), (6, 0), (7, 0), (8, 0), (9, 0), (9, 1), (9, 2)] : List (Nat × Nat)), va_at D sn_cl (lw_ad q1 u1 q2 u2 q3 x.1 x.2, sn_en dA (lw_ad q1 u1 q2 u2 q3) sg_0 x.1 x.2) H := by
  exact List.forall_mem_cons.mpr ⟨hP 0 _ rfl, List.forall_mem_cons.mpr ⟨hP 1 _ rfl, List.forall_mem_cons.mpr ⟨hP 2 _ rfl, List.forall_mem_cons.mpr ⟨hP 3 _ rfl, List.forall_mem_cons.mpr ⟨hP 4 _ rfl, List.forall_mem_cons.mpr ⟨hP 5 _ rfl, List.forall_mem_cons.mpr ⟨hP 6 _ rfl, List.forall_mem_cons.mpr ⟨hP 7 _ rfl, List.forall_mem_cons.mpr ⟨hP 8 _ rfl, List.forall_mem_cons.mpr ⟨hP 9 _ rfl, List.forall_mem_cons.mpr ⟨hP 19 _ rfl, List.forall_mem_cons.mpr ⟨hP 29 _ rfl, fun _ h => absurd h List.not_mem_nil⟩⟩⟩⟩⟩⟩⟩⟩⟩⟩⟩⟩
set_option maxRecDepth 100000 in
set_option maxHeartbeats 2000000 in
theorem lw_P1 {D : va_G} {H : Heap} {dA : Nat → ClassId} {q1 q2 q3 : Nat} {u1 u2 : Nat → Nat} (hP : va_P D sn_cl (lw_W dA q1 u1 q2 u2 q3) H) : ∀ x ∈ ([(9, 3), (10, 0), (10, 1), (10, 2), (10, 3), (11, 0), (11, 1), (11, 2), (11, 3), (12, 0), (12, 1), (12, 2)] : List (Nat × Nat)), va_at D sn_cl (lw_ad q1 u1 q2 u2 q3 x.1 x.2, sn_en dA (lw_ad q1 u1 q2 u2 q3) sg_0 x.1 x.2) H := by
  exact List.forall_mem_cons.mpr ⟨hP 62 _ rfl, List.forall_mem_cons.mpr ⟨hP 10 _ rfl, List.forall_mem_cons.mpr ⟨hP 20 _ rfl, List.forall_mem_cons.mpr ⟨hP 30 _ rfl, List.forall_mem_cons.mpr ⟨hP 63 _ rfl, List.forall_mem_cons.mpr ⟨hP 11 _ rfl, List.forall_mem_cons.mpr ⟨hP 21 _ rfl, List.forall_mem_cons.mpr ⟨hP 31 _ rfl, List.forall_mem_cons.mpr ⟨hP 64 _ rfl, List.forall_mem_cons.mpr ⟨hP 12 _ rfl, List.forall_mem_cons.mpr ⟨hP 22 _ rfl, List.forall_mem_cons.mpr ⟨hP 32 _ rfl, fun _ h => absurd h List.not_mem_nil⟩⟩⟩⟩⟩⟩⟩⟩⟩⟩⟩⟩
set_option maxRecDepth 100000 in
set_option maxHeartbeats 2000000 in
theorem lw_P2 {D : va_G} {H : Heap} {dA : Nat → ClassId} {q1 q2 q3 : Nat} {u1 u2 : Nat → Nat} (hP : va_P D sn_cl (lw_W dA q1 u1 q2 u2 q3) H) : ∀ x ∈ ([(12, 3), (13, 0), (13, 1), (13, 2), (13, 3), (14, 0), (14, 1), (14, 2), (14, 3), (15, 0), (15, 1), (15, 2)] : List (Nat × Nat)), va_at D sn_cl (lw_ad q1 u1 q2 u2 q3 x.1 x.2, sn_en dA (lw_ad q1 u1 q2 u2 q3) sg_0 x.1 x.2) H := by
  exact List.forall_mem_cons.mpr ⟨hP 65 _ rfl, List.forall_mem_cons.mpr ⟨hP 13 _ rfl, List.forall_mem_cons.mpr ⟨hP 23 _ rfl, List.forall_mem_cons.mpr ⟨hP 33 _ rfl, List.forall_mem_cons.mpr ⟨hP 66 _ rfl, List.forall_mem_cons.mpr ⟨hP 14 _ rfl, List.forall_mem_cons.mpr ⟨hP 24 _ rfl, List.forall_mem_cons.mpr ⟨hP 34 _ rfl, List.forall_mem_cons.mpr ⟨hP 67 _ rfl, List.forall_mem_cons.mpr ⟨hP 15 _ rfl, List.forall_mem_cons.mpr ⟨hP 25 _ rfl, List.forall_mem_cons.mpr ⟨hP 35 _ rfl, fun _ h => absurd h List.not_mem_nil⟩⟩⟩⟩⟩⟩⟩⟩⟩⟩⟩⟩
set_option maxRecDepth 100000 in
set_option maxHeartbeats 2000000 in
theorem lw_P3 {D : va_G} {H : Heap} {dA : Nat → ClassId} {q1 q2 q3 : Nat} {u1 u2 : Nat → Nat} (hP : va_P D sn_cl (lw_W dA q1 u1 q2 u2 q3) H) : ∀ x ∈ ([(15, 3), (16, 0), (16, 1), (16, 2), (16, 3), (17, 0), (17, 1), (17, 2), (17, 3), (18, 0), (18, 1), (18, 2)] : List (Nat × Nat)), va_at D sn_cl (lw_ad q1 u1 q2 u2 q3 x.1 x.2, sn_en dA (lw_ad q1 u1 q2 u2 q3) sg_0 x.1 x.2) H := by
  exact List.forall_mem_cons.mpr ⟨hP 68 _ rfl, List.forall_mem_cons.mpr ⟨hP 16 _ rfl, List.forall_mem_cons.mpr ⟨hP 26 _ rfl, List.forall_mem_cons.mpr ⟨hP 36 _ rfl, List.forall_mem_cons.mpr ⟨hP 69 _ rfl, List.forall_mem_cons.mpr ⟨hP 17 _ rfl, List.forall_mem_cons.mpr ⟨hP 27 _ rfl, List.forall_mem_cons.mpr ⟨hP 37 _ rfl, List.forall_mem_cons.mpr ⟨hP 70 _ rfl, List.forall_mem_cons.mpr ⟨hP 18 _ rfl, List.forall_mem_cons.mpr ⟨hP 28 _ rfl, List.forall_mem_cons.mpr ⟨hP 38 _ rfl, fun _ h => absurd h List.not_mem_nil⟩⟩⟩⟩⟩⟩⟩⟩⟩⟩⟩⟩
set_option maxRecDepth 100000 in
set_option maxHeartbeats 2000000 in
theorem lw_P4 {D : va_G} {H : Heap} {dA : Nat → ClassId} {q1 q2 q3 : Nat} {u1 u2 : Nat → Nat} (hP : va_P D sn_cl (lw_W dA q1 u1 q2 u2 q3) H) : ∀ x ∈ ([(18, 3), (19, 0), (19, 1), (20, 0), (20, 1), (21, 0), (21, 1), (21, 2), (21, 3), (21, 4), (21, 5), (21, 6)] : List (Nat × Nat)), va_at D sn_cl (lw_ad q1 u1 q2 u2 q3 x.1 x.2, sn_en dA (lw_ad q1 u1 q2 u2 q3) sg_0 x.1 x.2) H := by
  have t0 : va_at D sn_cl (lw_ad q1 u1 q2 u2 q3 20 0, sn_en dA (lw_ad q1 u1 q2 u2 q3) sg_0 20 0) H := lw_tb (f := fun j => some (u1 39 + 1 + j)) (fun j hj => by
    have hj : j = 0 ∨ j = 1 ∨ j = 2 ∨ j = 3 ∨ j = 4 ∨ j = 5 ∨ j = 6 ∨ j = 7 ∨ j = 8 := by omega
    rcases hj with rfl | rfl | rfl | rfl | rfl | rfl | rfl | rfl | rfl <;> rfl) (hP 40 _ rfl)
  have t1 : va_at D sn_cl (lw_ad q1 u1 q2 u2 q3 20 1, sn_en dA (lw_ad q1 u1 q2 u2 q3) sg_0 20 1) H := lw_tb (f := fun j => some (u1 63 + 1 + j)) (fun j hj => by
    have hj : j = 0 ∨ j = 1 ∨ j = 2 ∨ j = 3 ∨ j = 4 ∨ j = 5 ∨ j = 6 ∨ j = 7 ∨ j = 8 := by omega
    rcases hj with rfl | rfl | rfl | rfl | rfl | rfl | rfl | rfl | rfl <;> rfl) (hP 73 _ rfl)
  exact List.forall_mem_cons.mpr ⟨hP 71 _ rfl, List.forall_mem_cons.mpr ⟨hP 39 _ rfl, List.forall_mem_cons.mpr ⟨hP 72 _ rfl, List.forall_mem_cons.mpr ⟨t0, List.forall_mem_cons.mpr ⟨t1, List.forall_mem_cons.mpr ⟨hP 41 _ rfl, List.forall_mem_cons.mpr ⟨hP 42 _ rfl, List.forall_mem_cons.mpr ⟨hP 43 _ rfl, List.forall_mem_cons.mpr ⟨hP 44 _ rfl, List.forall_mem_cons.mpr ⟨hP 45 _ rfl, List.forall_mem_cons.mpr ⟨hP 46 _ rfl, List.forall_mem_cons.mpr ⟨hP 47 _ rfl, fun _ h => absurd h List.not_mem_nil⟩⟩⟩⟩⟩⟩⟩⟩⟩⟩⟩⟩
set_option maxRecDepth 100000 in
set_option maxHeartbeats 2000000 in
theorem lw_P5 {D : va_G} {H : Heap} {dA : Nat → ClassId} {q1 q2 q3 : Nat} {u1 u2 : Nat → Nat} (hP : va_P D sn_cl (lw_W dA q1 u1 q2 u2 q3) H) : ∀ x ∈ ([(21, 7), (21, 8), (21, 9), (21, 10), (21, 11), (21, 12), (21, 13), (21, 14), (21, 15), (21, 16), (21, 17), (22, 0)] : List (Nat × Nat)), va_at D sn_cl (lw_ad q1 u1 q2 u2 q3 x.1 x.2, sn_en dA (lw_ad q1 u1 q2 u2 q3) sg_0 x.1 x.2) H := by
  exact List.forall_mem_cons.mpr ⟨hP 48 _ rfl, List.forall_mem_cons.mpr ⟨hP 49 _ rfl, List.forall_mem_cons.mpr ⟨hP 74 _ rfl, List.forall_mem_cons.mpr ⟨hP 75 _ rfl, List.forall_mem_cons.mpr ⟨hP 76 _ rfl, List.forall_mem_cons.mpr ⟨hP 77 _ rfl, List.forall_mem_cons.mpr ⟨hP 78 _ rfl, List.forall_mem_cons.mpr ⟨hP 79 _ rfl, List.forall_mem_cons.mpr ⟨hP 80 _ rfl, List.forall_mem_cons.mpr ⟨hP 81 _ rfl, List.forall_mem_cons.mpr ⟨hP 82 _ rfl, List.forall_mem_cons.mpr ⟨hP 50 _ rfl, fun _ h => absurd h List.not_mem_nil⟩⟩⟩⟩⟩⟩⟩⟩⟩⟩⟩⟩
set_option maxRecDepth 100000 in
set_option maxHeartbeats 2000000 in
theorem lw_P6 {D : va_G} {H : Heap} {dA : Nat → ClassId} {q1 q2 q3 : Nat} {u1 u2 : Nat → Nat} (hP : va_P D sn_cl (lw_W dA q1 u1 q2 u2 q3) H) : ∀ x ∈ ([(22, 1), (23, 0), (23, 1), (24, 0), (24, 1), (25, 0), (26, 0), (27, 0), (28, 0), (29, 0), (30, 0), (31, 0)] : List (Nat × Nat)), va_at D sn_cl (lw_ad q1 u1 q2 u2 q3 x.1 x.2, sn_en dA (lw_ad q1 u1 q2 u2 q3) sg_0 x.1 x.2) H := by
  exact List.forall_mem_cons.mpr ⟨hP 83 _ rfl, List.forall_mem_cons.mpr ⟨hP 51 _ rfl, List.forall_mem_cons.mpr ⟨hP 84 _ rfl, List.forall_mem_cons.mpr ⟨hP 52 _ rfl, List.forall_mem_cons.mpr ⟨hP 85 _ rfl, List.forall_mem_cons.mpr ⟨hP 53 _ rfl, List.forall_mem_cons.mpr ⟨hP 54 _ rfl, List.forall_mem_cons.mpr ⟨hP 55 _ rfl, List.forall_mem_cons.mpr ⟨hP 56 _ rfl, List.forall_mem_cons.mpr ⟨hP 57 _ rfl, List.forall_mem_cons.mpr ⟨hP 58 _ rfl, List.forall_mem_cons.mpr ⟨hP 59 _ rfl, fun _ h => absurd h List.not_mem_nil⟩⟩⟩⟩⟩⟩⟩⟩⟩⟩⟩⟩
set_option maxRecDepth 100000 in
set_option maxHeartbeats 2000000 in
theorem lw_P7 {D : va_G} {H : Heap} {dA : Nat → ClassId} {q1 q2 q3 : Nat} {u1 u2 : Nat → Nat} (hP : va_P D sn_cl (lw_W dA q1 u1 q2 u2 q3) H) : ∀ x ∈ ([(32, 0), (33, 0), (34, 0), (35, 0), (36, 0), (37, 0), (38, 0), (39, 0), (40, 0), (41, 0), (42, 0), (43, 0)] : List (Nat × Nat)), va_at D sn_cl (lw_ad q1 u1 q2 u2 q3 x.1 x.2, sn_en dA (lw_ad q1 u1 q2 u2 q3) sg_0 x.1 x.2) H := by
  exact List.forall_mem_cons.mpr ⟨hP 60 _ rfl, List.forall_mem_cons.mpr ⟨hP 61 _ rfl, List.forall_mem_cons.mpr ⟨hP 86 _ rfl, List.forall_mem_cons.mpr ⟨hP 87 _ rfl, List.forall_mem_cons.mpr ⟨hP 88 _ rfl, List.forall_mem_cons.mpr ⟨hP 89 _ rfl, List.forall_mem_cons.mpr ⟨hP 90 _ rfl, List.forall_mem_cons.mpr ⟨hP 91 _ rfl, List.forall_mem_cons.mpr ⟨hP 92 _ rfl, List.forall_mem_cons.mpr ⟨hP 93 _ rfl, List.forall_mem_cons.mpr ⟨hP 94 _ rfl, List.forall_mem_cons.mpr ⟨hP 95 _ rfl, fun _ h => absurd h List.not_mem_nil⟩⟩⟩⟩⟩⟩⟩⟩⟩⟩⟩⟩
set_option maxRecDepth 100000 in
set_option maxHeartbeats 2000000 in
theorem lw_P8 {D : va_G} {H : Heap} {dA : Nat → ClassId} {q1 q2 q3 : Nat} {u1 u2 : Nat → Nat} (hP : va_P D sn_cl (lw_W dA q1 u1 q2 u2 q3) H) : ∀ x ∈ ([(44, 0), (45, 0), (46, 0), (47, 0), (48, 0), (49, 0), (50, 0), (51, 0), (52, 0), (53, 0), (54, 0), (55, 0)] : List (Nat × Nat)), va_at D sn_cl (lw_ad q1 u1 q2 u2 q3 x.1 x.2, sn_en dA (lw_ad q1 u1 q2 u2 q3) sg_0 x.1 x.2) H := by
  exact List.forall_mem_cons.mpr ⟨hP 96 _ rfl, List.forall_mem_cons.mpr ⟨hP 97 _ rfl, List.forall_mem_cons.mpr ⟨hP 98 _ rfl, List.forall_mem_cons.mpr ⟨hP 99 _ rfl, List.forall_mem_cons.mpr ⟨hP 100 _ rfl, List.forall_mem_cons.mpr ⟨hP 101 _ rfl, List.forall_mem_cons.mpr ⟨hP 102 _ rfl, List.forall_mem_cons.mpr ⟨hP 103 _ rfl, List.forall_mem_cons.mpr ⟨hP 104 _ rfl, List.forall_mem_cons.mpr ⟨hP 105 _ rfl, List.forall_mem_cons.mpr ⟨hP 106 _ rfl, List.forall_mem_cons.mpr ⟨hP 107 _ rfl, fun _ h => absurd h List.not_mem_nil⟩⟩⟩⟩⟩⟩⟩⟩⟩⟩⟩⟩
set_option maxRecDepth 100000 in
set_option maxHeartbeats 2000000 in
theorem lw_P9 {D : va_G} {H : Heap} {dA : Nat → ClassId} {q1 q2 q3 : Nat} {u1 u2 : Nat → Nat} (hP : va_P D sn_cl (lw_W dA q1 u1 q2 u2 q3) H) : ∀ x ∈ ([(56, 0), (57, 0), (58, 0), (59, 0), (60, 0), (61, 0), (62, 0), (63, 0), (64, 0), (65, 0)] : List (Nat × Nat)), va_at D sn_cl (lw_ad q1 u1 q2 u2 q3 x.1 x.2, sn_en dA (lw_ad q1 u1 q2 u2 q3) sg_0 x.1 x.2) H := by
  exact List.forall_mem_cons.mpr ⟨hP 108 _ rfl, List.forall_mem_cons.mpr ⟨hP 109 _ rfl, List.forall_mem_cons.mpr ⟨hP 110 _ rfl, List.forall_mem_cons.mpr ⟨hP 111 _ rfl, List.forall_mem_cons.mpr ⟨hP 112 _ rfl, List.forall_mem_cons.mpr ⟨hP 113 _ rfl, List.forall_mem_cons.mpr ⟨hP 114 _ rfl, List.forall_mem_cons.mpr ⟨hP 115 _ rfl, List.forall_mem_cons.mpr ⟨hP 116 _ rfl, List.forall_mem_cons.mpr ⟨hP 117 _ rfl, fun _ h => absurd h List.not_mem_nil⟩⟩⟩⟩⟩⟩⟩⟩⟩⟩
theorem lw_P0all {D : va_G} {H : Heap} {dA : Nat → ClassId} {q1 q2 q3 : Nat} {u1 u2 : Nat → Nat} (hP : va_P D sn_cl (lw_W dA q1 u1 q2 u2 q3) H) : va_P D sn_cl (sn_wd dA (lw_ad q1 u1 q2 u2 q3) sg_0) H := by
  intro k q hk
  obtain ⟨x, hx, rfl⟩ := List.mem_map.mp (List.mem_of_getElem? hk)
  have e : sn_ps = [(0, 0), (1, 0), (2, 0), (3, 0), (4, 0), (5, 0), (6, 0), (7, 0), (8, 0), (9, 0), (9, 1), (9, 2)] ++ ([(9, 3), (10, 0), (10, 1), (10, 2), (10, 3), (11, 0), (11, 1), (11, 2), (11, 3), (12, 0), (12, 1), (12, 2)] ++ ([(12, 3), (13, 0), (13, 1), (13, 2), (13, 3), (14, 0), (14, 1), (14, 2), (14, 3), (15, 0), (15, 1), (15, 2)] ++ ([(15, 3), (16, 0), (16, 1), (16, 2), (16, 3), (17, 0), (17, 1), (17, 2), (17, 3), (18, 0), (18, 1), (18, 2)] ++ ([(18, 3), (19, 0), (19, 1), (20, 0), (20, 1), (21, 0), (21, 1), (21, 2), (21, 3), (21, 4), (21, 5), (21, 6)] ++ ([(21, 7), (21, 8), (21, 9), (21, 10), (21, 11), (21, 12), (21, 13), (21, 14), (21, 15), (21, 16), (21, 17), (22, 0)] ++ ([(22, 1), (23, 0), (23, 1), (24, 0), (24, 1), (25, 0), (26, 0), (27, 0), (28, 0), (29, 0), (30, 0), (31, 0)] ++ ([(32, 0), (33, 0), (34, 0), (35, 0), (36, 0), (37, 0), (38, 0), (39, 0), (40, 0), (41, 0), (42, 0), (43, 0)] ++ ([(44, 0), (45, 0), (46, 0), (47, 0), (48, 0), (49, 0), (50, 0), (51, 0), (52, 0), (53, 0), (54, 0), (55, 0)] ++ ([(56, 0), (57, 0), (58, 0), (59, 0), (60, 0), (61, 0), (62, 0), (63, 0), (64, 0), (65, 0)]))))))))) := lw_ps
  rw [e] at hx
  rcases List.mem_append.mp hx with hx | hx
  · exact lw_P0 hP x hx
  rcases List.mem_append.mp hx with hx | hx
  · exact lw_P1 hP x hx
  rcases List.mem_append.mp hx with hx | hx
  · exact lw_P2 hP x hx
  rcases List.mem_append.mp hx with hx | hx
  · exact lw_P3 hP x hx
  rcases List.mem_append.mp hx with hx | hx
  · exact lw_P4 hP x hx
  rcases List.mem_append.mp hx with hx | hx
  · exact lw_P5 hP x hx
  rcases List.mem_append.mp hx with hx | hx
  · exact lw_P6 hP x hx
  rcases List.mem_append.mp hx with hx | hx
  · exact lw_P7 hP x hx
  rcases List.mem_append.mp hx with hx | hx
  · exact lw_P8 hP x hx
  exact lw_P9 hP x hx
