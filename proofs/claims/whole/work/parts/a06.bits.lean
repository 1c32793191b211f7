/-! Sets of links as long masks. -/
theorem sh_am : ∀ l : Nat, l < 64 → ((Int32.ofInt (l : Int)).toInt64 &&& 63).toBitVec.smod 64 = BitVec.ofNat 64 l := by decide +kernel
theorem sh_r {m : Int64} {l : Nat} (h : l < 64) : (sn_shr m (l : Int)).toBitVec = m.toBitVec.sshiftRight l := by
  unfold sn_shr
  rw [Int64.toBitVec_shiftRight, sh_am l h, BitVec.sshiftRight_eq']
  congr 1
  rw [BitVec.toNat_ofNat]
  omega
theorem sh_l {m : Int64} {l : Nat} (h : l < 64) : (sn_shl m (l : Int)).toBitVec = m.toBitVec <<< l := by
  unfold sn_shl
  rw [Int64.toBitVec_shiftLeft, sh_am l h, BitVec.shiftLeft_eq']
  congr 1
  rw [BitVec.toNat_ofNat]
  omega
def ib (m : Int64) (l : Nat) : Bool := m.toBitVec.getLsbD l
theorem ib_is {m : Int64} {l : Nat} (h : l < 64) : (sn_shr m (l : Int) &&& 1 = 1) ↔ ib m l = true := by
  have e : (sn_shr m (l : Int) &&& 1 = 1) ↔ (m.toBitVec.sshiftRight l &&& 1#64 = 1#64) := by
    rw [← Int64.toBitVec_inj, Int64.toBitVec_and, sh_r h]
    rfl
  rw [e]
  unfold ib
  constructor
  · intro z
    have := congrArg (fun x => x.getLsbD 0) z
    simp only [BitVec.getLsbD_and, BitVec.getLsbD_sshiftRight] at this
    simpa [h] using this
  · intro z
    refine BitVec.eq_of_getLsbD_eq (fun i hi => ?_)
    rw [BitVec.getLsbD_and, BitVec.getLsbD_sshiftRight]
    by_cases i0 : i = 0
    · subst i0
      simp [h, z]
    · have : (1#64).getLsbD i = false := by
        rw [BitVec.getLsbD_one]
        simp [i0]
      rw [this, Bool.and_false]
theorem ib_ext {m n : Int64} (h : ∀ l, l < 64 → ib m l = ib n l) : m = n := by
  rw [← Int64.toBitVec_inj]
  exact BitVec.eq_of_getLsbD_eq (fun i hi => h i hi)
theorem ib_0 (l : Nat) : ib 0 l = false := by
  unfold ib
  show (0#64).getLsbD l = false
  simp
theorem ib_or (m n : Int64) (l : Nat) : ib (m ||| n) l = (ib m l || ib n l) := by
  unfold ib
  rw [Int64.toBitVec_or, BitVec.getLsbD_or]
theorem ib_and (m n : Int64) (l : Nat) : ib (m &&& n) l = (ib m l && ib n l) := by
  unfold ib
  rw [Int64.toBitVec_and, BitVec.getLsbD_and]
theorem ib_not (m : Int64) {l : Nat} (h : l < 64) : ib (m ^^^ (-1)) l = !ib m l := by
  unfold ib
  rw [Int64.toBitVec_xor, BitVec.getLsbD_xor]
  have : ((-1 : Int64).toBitVec).getLsbD l = true := by
    have e : (-1 : Int64).toBitVec = BitVec.allOnes 64 := by decide +kernel
    rw [e, BitVec.getLsbD_allOnes]
    simpa using h
  rw [this, Bool.xor_true]
theorem ib_bit {k l : Nat} (hk : k < 64) (hl : l < 64) : ib (sn_shl 1 (k : Int)) l = decide (l = k) := by
  unfold ib
  rw [sh_l hk, BitVec.getLsbD_shiftLeft]
  show (decide (l < 64) && !decide (l < k) && (1#64).getLsbD (l - k)) = _
  rw [BitVec.getLsbD_one]
  by_cases z : l = k
  · subst z
    simp [hl]
  · by_cases y : l < k
    · simp [y, z]
    · have : l - k ≠ 0 := by omega
      simp [this, z]
theorem cmp_0 {x y : Int64} : sn_cmp x y = 0 ↔ x = y := by
  unfold sn_cmp
  constructor
  · intro h
    split at h
    · cases h
    · split at h
      · assumption
      · cases h
  · rintro rfl
    rw [if_neg (fun h => Int64.lt_irrefl h), if_pos rfl]
