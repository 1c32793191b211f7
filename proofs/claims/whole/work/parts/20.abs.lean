/-! The abstract machine: values are numbers, longs, and cells by kind and number; the memory is a function. -/
abbrev sn_V : Type := Int ⊕ Int64 ⊕ (Nat × Nat)
abbrev sn_M : Type := (Nat → Nat → Nat → Int) × (Nat → Nat → Nat → Int64)
abbrev sn_A : Type := Nat → Nat → Nat
abbrev sn_Ls : Type := List (Option sn_V)
/-- what a call does: of its arguments, the memory and what must hold behind it -/
abbrev sn_P : Type := List sn_V → sn_M → (Option sn_V → sn_M → Prop) → Prop
def sn_R (x : Int) : Prop := -2147483648 ≤ x ∧ x < 2147483648
def sn_u {α : Type} (f : Nat → Nat → Nat → α) (k i j : Nat) (x : α) : Nat → Nat → Nat → α := fun k' i' j' => if k' = k ∧ i' = i ∧ j' = j then x else f k' i' j'
def sn_cv (ad : sn_A) (v : sn_V) : Value := match v with
  | .inl x => .int (Int32.ofInt x)
  | .inr (.inl x) => .long x
  | .inr (.inr q) => .ref (ad q.1 q.2)
def sn_ok (k i : Nat) : Prop := k < sn_K ∧ i < sn_kn k
def sn_vo (v : sn_V) : Prop := match v with
  | .inl x => sn_R x
  | .inr (.inl _) => True
  | .inr (.inr q) => sn_ok q.1 q.2
/-- a field's value, an entry of the world, the world -/
def sn_fv (ad : sn_A) (σ : sn_M) (k i j : Nat) : Value := match sn_ks k j with
  | .inl false => .int (Int32.ofInt (σ.1 k i j))
  | .inl true => .long (σ.2 k i j)
  | .inr q => .ref (ad q.1 (q.2 i))
def sn_en (dA : Nat → ClassId) (ad : sn_A) (σ : sn_M) (k i : Nat) : va_E :=
  if sn_kc k = 100 then .inl (dA 0, sn_kl k, .inl (fun j => Int32.ofInt (σ.1 k i j)))
  else if sn_kc k = 101 then .inl (dA 1, sn_kl k, .inl (fun j => Int32.ofInt (σ.1 k i j)))
  else if sn_kc k = 102 then .inl (dA 2, sn_kl k, .inr (.inl (fun j => σ.2 k i j)))
  else if sn_kc k = 103 then .inl (dA 3, sn_kl k, .inr (.inr (.inr (.inr (fun j => some (ad (sn_ke k).1 ((sn_ke k).2 i j)))))))
  else .inr (sn_kc k, (List.range (sn_kl k)).map (sn_fv ad σ k i))
def sn_ps : List (Nat × Nat) := (List.range sn_K).flatMap (fun k => (List.range (sn_kn k)).map (fun i => (k, i)))
def sn_wd (dA : Nat → ClassId) (ad : sn_A) (σ : sn_M) : va_W := sn_ps.map (fun q => (ad q.1 q.2, sn_en dA ad σ q.1 q.2))
def sn_tys (dA : Nat → ClassId) : List (ClassId × FieldType) := [(dA 0, .int), (dA 1, .boolean), (dA 2, .long), (dA 3, .array .int)]
/-- locals: a store of one word, of two -/
def sn_kill (L : sn_Ls) (i : Nat) : sn_Ls := match i with
  | 0 => L
  | j + 1 => match L[j]? with
    | some (some (.inr (.inl _))) => L.set j none
    | _ => L
def sn_s1 (L : sn_Ls) (i : Nat) (v : sn_V) : sn_Ls := (sn_kill L i).set i (some v)
def sn_s2 (L : sn_Ls) (i : Nat) (v : sn_V) : sn_Ls := ((sn_kill L i).set i (some v)).set (i + 1) none
def sn_li (L : sn_Ls) (i : Nat) (f : Int → Prop) : Prop := match L[i]? with
  | some (some (.inl x)) => f x
  | _ => False
def sn_ll (L : sn_Ls) (i : Nat) (f : Int64 → Prop) : Prop := match L[i]? with
  | some (some (.inr (.inl x))) => f x
  | _ => False
def sn_la (L : sn_Ls) (i : Nat) (f : Nat × Nat → Prop) : Prop := match L[i]? with
  | some (some (.inr (.inr x))) => f x
  | _ => False
def sn_p1 (S : List sn_V) (f : Int → List sn_V → Prop) : Prop := match S with
  | .inl x :: S' => f x S'
  | _ => False
def sn_p2 (S : List sn_V) (f : Int → Int → List sn_V → Prop) : Prop := match S with
  | .inl y :: .inl x :: S' => f x y S'
  | _ => False
def sn_q1 (S : List sn_V) (f : Int64 → List sn_V → Prop) : Prop := match S with
  | .inr (.inl x) :: S' => f x S'
  | _ => False
def sn_q2 (S : List sn_V) (f : Int64 → Int64 → List sn_V → Prop) : Prop := match S with
  | .inr (.inl y) :: .inr (.inl x) :: S' => f x y S'
  | _ => False
def sn_qp (S : List sn_V) (f : Int64 → Int → List sn_V → Prop) : Prop := match S with
  | .inl y :: .inr (.inl x) :: S' => f x y S'
  | _ => False
def sn_r1 (S : List sn_V) (f : Nat × Nat → List sn_V → Prop) : Prop := match S with
  | .inr (.inr x) :: S' => f x S'
  | _ => False
/-- one entry of one word -/
def sn_c1 (S : List sn_V) (f : sn_V → List sn_V → Prop) : Prop := match S with
  | .inl x :: S' => f (.inl x) S'
  | .inr (.inr x) :: S' => f (.inr (.inr x)) S'
  | _ => False
/-- an index and an array of the kind c -/
def sn_ix (c : Nat) (S : List sn_V) (f : Int → Nat × Nat → List sn_V → Prop) : Prop := match S with
  | .inl x :: .inr (.inr q) :: S' => bif Nat.beq (sn_kc q.1) c then (0 ≤ x ∧ x < sn_kl q.1) ∧ f x q S' else False
  | _ => False
def sn_and (x y : Int) : Int := (Int32.ofInt x &&& Int32.ofInt y).toInt
/-- a number that may run over -/
def sn_wr (x : Int) : Int := (Int32.ofInt x).toInt
def sn_cmp (x y : Int64) : Int := if x > y then 1 else if x = y then 0 else -1
def sn_shl (x : Int64) (y : Int) : Int64 := x <<< ((Int32.ofInt y).toInt64 &&& 63)
def sn_shr (x : Int64) (y : Int) : Int64 := x >>> ((Int32.ofInt y).toInt64 &&& 63)
/-- the roads of a switch -/
def sn_tb (x lo : Int) (f : Int → Prop) (os : List Int) : Prop := match os with
  | [] => True
  | o :: t => (x = lo → f o) ∧ sn_tb x (lo + 1) f t
def sn_is (n : Nat) (sp : sn_P) (S : List sn_V) (σ : sn_M) (k : Option sn_V → List sn_V → sn_M → Prop) : Prop :=
  bif Nat.ble n S.length && Nat.ble S.length (n + 4) then sp (S.take n).reverse σ (fun r σ' => k r (S.drop n) σ') else False
def sn_iv (n ci : Nat) (sp : sn_P) (S : List sn_V) (σ : sn_M) (k : Option sn_V → List sn_V → sn_M → Prop) : Prop :=
  match (S.take n).reverse with
  | .inr (.inr q) :: _ => bif Nat.beq (sn_kc q.1 + 1) ci then sn_is n sp S σ k else False
  | _ => False
/-- one step of the code: what must hold so that the continuation is reached -/
def sn_step (pr : Nat → Option (Instr × Nat)) (fi : Nat → Option (Nat × Nat)) (lc : Nat → Option Int64) (ca : Nat → Option (Nat × Nat × sn_P)) (post : Option sn_V → sn_M → Prop) (K : Nat → sn_Ls → List sn_V → sn_M → Prop) (pc : Nat) (L : sn_Ls) (S : List sn_V) (σ : sn_M) : Prop :=
  match pr pc with
  | none => False
  | some (ins, t) => match ins with
    | .iconst n => K (pc + 1) L (.inl n :: S) σ
    | .bipush n => K (pc + 2) L (.inl n :: S) σ
    | .sipush n => K (pc + 3) L (.inl n :: S) σ
    | .lconst n => K (pc + 1) L (.inr (.inl (Int64.ofNat n.val)) :: S) σ
    | .ldc2_w x => (match lc x with
      | some v => K (pc + 3) L (.inr (.inl v) :: S) σ
      | none => False)
    | .iload i => sn_li L i fun x => K (pc + 2) L (.inl x :: S) σ
    | .iload_n i => sn_li L i.val fun x => K (pc + 1) L (.inl x :: S) σ
    | .lload i => sn_ll L i fun x => K (pc + 2) L (.inr (.inl x) :: S) σ
    | .lload_n i => sn_ll L i.val fun x => K (pc + 1) L (.inr (.inl x) :: S) σ
    | .aload i => sn_la L i fun x => K (pc + 2) L (.inr (.inr x) :: S) σ
    | .aload_n i => sn_la L i.val fun x => K (pc + 1) L (.inr (.inr x) :: S) σ
    | .istore i => sn_p1 S fun x S => K (pc + 2) (sn_s1 L i (.inl x)) S σ
    | .istore_n i => sn_p1 S fun x S => K (pc + 1) (sn_s1 L i.val (.inl x)) S σ
    | .lstore i => sn_q1 S fun x S => K (pc + 2) (sn_s2 L i (.inr (.inl x))) S σ
    | .lstore_n i => sn_q1 S fun x S => K (pc + 1) (sn_s2 L i.val (.inr (.inl x))) S σ
    | .astore i => sn_r1 S fun x S => K (pc + 2) (sn_s1 L i (.inr (.inr x))) S σ
    | .astore_n i => sn_r1 S fun x S => K (pc + 1) (sn_s1 L i.val (.inr (.inr x))) S σ
    | .iinc i n => sn_li L i fun x => sn_R (x + n) ∧ K (pc + 3) (sn_s1 L i (.inl (x + n))) S σ
    | .iadd => sn_p2 S fun x y S => sn_R (x + y) ∧ K (pc + 1) L (.inl (x + y) :: S) σ
    | .isub => sn_p2 S fun x y S => bif Nat.beq t 1 then K (pc + 1) L (.inl (sn_wr (x - y)) :: S) σ else sn_R (x - y) ∧ K (pc + 1) L (.inl (x - y) :: S) σ
    | .imul => sn_p2 S fun x y S => sn_R (x * y) ∧ K (pc + 1) L (.inl (x * y) :: S) σ
    | .idiv => sn_p2 S fun x y S => 0 < y ∧ K (pc + 1) L (.inl (x.tdiv y) :: S) σ
    | .irem => sn_p2 S fun x y S => 0 < y ∧ K (pc + 1) L (.inl (x.tmod y) :: S) σ
    | .ishl => sn_p2 S fun x y S => (0 ≤ y ∧ y < 32 ∧ sn_R (x * 2 ^ y.toNat)) ∧ K (pc + 1) L (.inl (x * 2 ^ y.toNat) :: S) σ
    | .ishr => sn_p2 S fun x y S => (0 ≤ y ∧ y < 32) ∧ K (pc + 1) L (.inl (x / 2 ^ y.toNat) :: S) σ
    | .iand => sn_p2 S fun x y S => K (pc + 1) L (.inl (sn_and x y) :: S) σ
    | .land => sn_q2 S fun x y S => K (pc + 1) L (.inr (.inl (x &&& y)) :: S) σ
    | .lor => sn_q2 S fun x y S => K (pc + 1) L (.inr (.inl (x ||| y)) :: S) σ
    | .lxor => sn_q2 S fun x y S => K (pc + 1) L (.inr (.inl (x ^^^ y)) :: S) σ
    | .lshl => sn_qp S fun x y S => K (pc + 1) L (.inr (.inl (sn_shl x y)) :: S) σ
    | .lshr => sn_qp S fun x y S => K (pc + 1) L (.inr (.inl (sn_shr x y)) :: S) σ
    | .lcmp => sn_q2 S fun x y S => K (pc + 1) L (.inl (sn_cmp x y) :: S) σ
    | .dup => sn_c1 S fun a S => K (pc + 1) L (a :: a :: S) σ
    | .pop => sn_c1 S fun _ S => K (pc + 1) L S σ
    | .dup_x1 => sn_c1 S fun a S => sn_c1 S fun b S => K (pc + 1) L (a :: b :: a :: S) σ
    | .dup_x2 => sn_c1 S fun a S => sn_c1 S fun b S => sn_c1 S fun d S => K (pc + 1) L (a :: b :: d :: a :: S) σ
    | .dup2 => sn_c1 S fun a S => sn_c1 S fun b S => K (pc + 1) L (a :: b :: a :: b :: S) σ
    | .goto _ => K t L S σ
    | .ifCond .eq _ => sn_p1 S fun x S => (x = 0 → K t L S σ) ∧ (¬ x = 0 → K (pc + 3) L S σ)
    | .ifCond .ne _ => sn_p1 S fun x S => (x = 0 → K (pc + 3) L S σ) ∧ (¬ x = 0 → K t L S σ)
    | .ifCond .lt _ => sn_p1 S fun x S => (x < 0 → K t L S σ) ∧ (0 ≤ x → K (pc + 3) L S σ)
    | .ifCond .ge _ => sn_p1 S fun x S => (x < 0 → K (pc + 3) L S σ) ∧ (0 ≤ x → K t L S σ)
    | .ifCond .gt _ => sn_p1 S fun x S => (x ≤ 0 → K (pc + 3) L S σ) ∧ (0 < x → K t L S σ)
    | .ifCond .le _ => sn_p1 S fun x S => (x ≤ 0 → K t L S σ) ∧ (0 < x → K (pc + 3) L S σ)
    | .if_icmp .eq _ => sn_p2 S fun x y S => (x = y → K t L S σ) ∧ (¬ x = y → K (pc + 3) L S σ)
    | .if_icmp .ne _ => sn_p2 S fun x y S => (x = y → K (pc + 3) L S σ) ∧ (¬ x = y → K t L S σ)
    | .if_icmp .lt _ => sn_p2 S fun x y S => (x < y → K t L S σ) ∧ (y ≤ x → K (pc + 3) L S σ)
    | .if_icmp .ge _ => sn_p2 S fun x y S => (x < y → K (pc + 3) L S σ) ∧ (y ≤ x → K t L S σ)
    | .if_icmp .gt _ => sn_p2 S fun x y S => (x ≤ y → K (pc + 3) L S σ) ∧ (y < x → K t L S σ)
    | .if_icmp .le _ => sn_p2 S fun x y S => (x ≤ y → K t L S σ) ∧ (y < x → K (pc + 3) L S σ)
    | .tableswitch d lo hi os => sn_p1 S fun x S => (x < lo ∨ hi < x → K ((pc : Int) + d).toNat L S σ) ∧ sn_tb x lo (fun o => K ((pc : Int) + o).toNat L S σ) os.toList
    | .getfield x => sn_r1 S fun q S => (match fi x with
      | some (ci, j) => bif Nat.beq (sn_kc q.1) ci then (match sn_ks q.1 j with
        | .inl false => K (pc + 3) L (.inl (σ.1 q.1 q.2 j) :: S) σ
        | .inl true => K (pc + 3) L (.inr (.inl (σ.2 q.1 q.2 j)) :: S) σ
        | .inr f => K (pc + 3) L (.inr (.inr (f.1, f.2 q.2)) :: S) σ) else False
      | none => False)
    | .putfield x => (match fi x with
      | some (ci, j) => (match S with
        | .inl v :: .inr (.inr q) :: S => bif Nat.beq (sn_kc q.1) ci then (match sn_ks q.1 j with
          | .inl false => K (pc + 3) L S (sn_u σ.1 q.1 q.2 j v, σ.2)
          | _ => False) else False
        | .inr (.inl v) :: .inr (.inr q) :: S => bif Nat.beq (sn_kc q.1) ci then (match sn_ks q.1 j with
          | .inl true => K (pc + 3) L S (σ.1, sn_u σ.2 q.1 q.2 j v)
          | _ => False) else False
        | _ => False)
      | none => False)
    | .arraylength => sn_r1 S fun q S => bif Nat.beq (sn_kc q.1) 100 then K (pc + 1) L (.inl (sn_kl q.1) :: S) σ else False
    | .iaload => sn_ix 100 S fun x q S => K (pc + 1) L (.inl (σ.1 q.1 q.2 x.toNat) :: S) σ
    | .baload => sn_ix 101 S fun x q S => K (pc + 1) L (.inl (σ.1 q.1 q.2 x.toNat) :: S) σ
    | .laload => sn_ix 102 S fun x q S => K (pc + 1) L (.inr (.inl (σ.2 q.1 q.2 x.toNat)) :: S) σ
    | .aaload => sn_ix 103 S fun x q S => K (pc + 1) L (.inr (.inr ((sn_ke q.1).1, (sn_ke q.1).2 q.2 x.toNat)) :: S) σ
    | .iastore => sn_p1 S fun v S => sn_ix 100 S fun x q S => K (pc + 1) L S (sn_u σ.1 q.1 q.2 x.toNat v, σ.2)
    | .bastore => sn_p1 S fun v S => sn_ix 101 S fun x q S => (v = 0 ∨ v = 1) ∧ K (pc + 1) L S (sn_u σ.1 q.1 q.2 x.toNat v, σ.2)
    | .lastore => sn_q1 S fun v S => sn_ix 102 S fun x q S => K (pc + 1) L S (σ.1, sn_u σ.2 q.1 q.2 x.toNat v)
    | .ireturn => (match S with
      | [.inl x] => bif Nat.beq t 1 then (x = 0 ∨ x = 1) ∧ post (some (.inl x)) σ else post (some (.inl x)) σ
      | _ => False)
    | .lreturn => (match S with
      | [.inr (.inl x)] => post (some (.inr (.inl x))) σ
      | _ => False)
    | .return_ => (match S with
      | [] => post none σ
      | _ => False)
    | .invokevirtual x => (match ca x with
      | some (n, ci, sp) => sn_iv n ci sp S σ fun r S σ' => K (pc + 3) L (r.toList ++ S) σ'
      | none => False)
    | .invokestatic x => (match ca x with
      | some (n, ci, sp) => bif Nat.beq ci 0 then sn_is n sp S σ fun r S σ' => K (pc + 3) L (r.toList ++ S) σ' else False
      | none => False)
    | _ => False
/-- some steps, up to a stop -/
def sn_in (x : Nat) (l : List Nat) : Bool := match l with
  | [] => false
  | y :: t => Nat.beq x y || sn_in x t
def sn_it (pr : Nat → Option (Instr × Nat)) (fi : Nat → Option (Nat × Nat)) (lc : Nat → Option Int64) (ca : Nat → Option (Nat × Nat × sn_P)) (post : Option sn_V → sn_M → Prop) (st : List Nat) (G : Nat → sn_Ls → List sn_V → sn_M → Prop) (n : Nat) (pc : Nat) (L : sn_Ls) (S : List sn_V) (σ : sn_M) : Prop := match n with
  | 0 => G pc L S σ
  | n + 1 => sn_step pr fi lc ca post (fun pc L S σ => bif sn_in pc st then G pc L S σ else sn_it pr fi lc ca post st G n pc L S σ) pc L S σ
/-- the locals at a method's entry -/
def sn_L1 (vs : List sn_V) : sn_Ls := match vs with
  | [] => []
  | .inr (.inl x) :: t => some (.inr (.inl x)) :: none :: sn_L1 t
  | v :: t => some v :: sn_L1 t
def sn_L0 (nL : Nat) (vs : List sn_V) : sn_Ls := sn_L1 vs ++ List.replicate (nL - (sn_L1 vs).length) none
/-- a body: whatever is closed under steps holds at its entry -/
def sn_Bd (pr : Nat → Option (Instr × Nat)) (fi : Nat → Option (Nat × Nat)) (lc : Nat → Option Int64) (ca : Nat → Option (Nat × Nat × sn_P)) (nL : Nat) (vs : List sn_V) (σ : sn_M) (post : Option sn_V → sn_M → Prop) : Prop :=
  ∀ G : Nat → sn_Ls → List sn_V → sn_M → Prop, (∀ (n : Nat) (st : List Nat) (pc : Nat) (L : sn_Ls) (S : List sn_V) (σ : sn_M), sn_it pr fi lc ca post st G n pc L S σ → G pc L S σ) → G 0 (sn_L0 nL vs) [] σ
/-- does the table of the code fit the code? -/
def sn_len (i : Instr) : Nat := match i with
  | .bipush _ | .iload _ | .lload _ | .aload _ | .istore _ | .lstore _ | .astore _ => 2
  | .sipush _ | .ldc2_w _ | .iinc _ _ | .goto _ | .ifCond _ _ | .if_icmp _ _ | .getfield _ | .putfield _ | .invokevirtual _ | .invokestatic _ => 3
  | _ => 1
def sn_rb (x : Int) : Bool := decide (-2147483648 ≤ x) && decide (x < 2147483648)
def sn_fit (nL : Nat) (ret : Option FieldType) (pc : Nat) (i : Instr) (t : Nat) : Bool := match i with
  | .iconst n => sn_rb n
  | .bipush n => sn_rb n && decide ((Int8.ofInt n).toInt32 = Int32.ofInt n)
  | .sipush n => sn_rb n && decide ((Int16.ofInt n).toInt32 = Int32.ofInt n)
  | .istore i => Nat.blt i nL
  | .astore i => Nat.blt i nL
  | .iinc i _ => Nat.blt i nL
  | .istore_n i => Nat.blt i.val nL
  | .astore_n i => Nat.blt i.val nL
  | .lstore i => Nat.blt (i + 1) nL
  | .lstore_n i => Nat.blt (i.val + 1) nL
  | .goto o => decide ((pc : Int) + o = (t : Int))
  | .ifCond _ o => decide ((pc : Int) + o = (t : Int))
  | .if_icmp _ o => decide ((pc : Int) + o = (t : Int))
  | .tableswitch d lo hi os => decide (0 ≤ (pc : Int) + d) && os.toList.all (fun o => decide (0 ≤ (pc : Int) + o)) && decide (hi < lo + os.toList.length)
  | .ireturn => (decide (ret = some .int) && Nat.beq t 0) || (decide (ret = some .boolean) && Nat.beq t 1)
  | .lreturn => decide (ret = some .long)
  | .return_ => decide (ret = none)
  | _ => true
def sn_sw (i : Instr) : Bool := match i with
  | .tableswitch _ _ _ _ => true
  | _ => false
def sn_dk (cc : ByteArray) (nL : Nat) (ret : Option FieldType) (pc : Nat) (i : Instr) (t : Nat) : Bool :=
  (match decode cc pc with
    | .ok (j, n) => decide (j = i) && (sn_sw i || Nat.beq n (sn_len i))
    | .error _ => false) && sn_fit nL ret pc i t
theorem sn_dk_1 {cc : ByteArray} {nL : Nat} {ret : Option FieldType} {pc : Nat} {i : Instr} {t : Nat} (h : sn_dk cc nL ret pc i t = true) : (∃ n, decode cc pc = .ok (i, n) ∧ (sn_sw i = false → n = sn_len i)) ∧ sn_fit nL ret pc i t = true := by
  unfold sn_dk at h
  rw [Bool.and_eq_true] at h
  refine ⟨?_, h.2⟩
  have h1 := h.1
  split at h1
  · next j n he =>
    rw [Bool.and_eq_true, Bool.or_eq_true] at h1
    obtain ⟨ha, hb⟩ := h1
    have ha := of_decide_eq_true ha
    subst ha
    refine ⟨n, he, fun hs => ?_⟩
    rcases hb with hb | hb
    · rw [hs] at hb; cases hb
    · exact Nat.eq_of_beq_eq_true hb
  · cases h1
theorem sn_dk_2 {cc : ByteArray} {nL : Nat} {ret : Option FieldType} {pc : Nat} {i : Instr} {t : Nat} (h : sn_dk cc nL ret pc i t = true) (hs : sn_sw i = false) : decode cc pc = .ok (i, sn_len i) := by
  obtain ⟨⟨n, h1, h2⟩, -⟩ := sn_dk_1 h
  rw [← h2 hs]
  exact h1
