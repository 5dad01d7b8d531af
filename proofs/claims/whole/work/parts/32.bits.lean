/-! bits: feed, spring -/
theorem zsl : ∀ n, n < 32 → ((nI n &&& 31).toBitVec.smod 32).toNat = n := by decide +kernel
theorem zsu : ∀ n, n < 32 → (((nI n).toUInt32 &&& Int32.toUInt32 31).toBitVec % 32).toNat = n := by decide +kernel
theorem zshr (n k : Nat) (hn : n < 32) (hk : n + k ≤ 32) (m : Int32) (hm : ∀ i, i < 32 → k ≤ i → m.toBitVec.getLsbD i = false) (x : Int32) : ((x.toUInt32 >>> ((nI n).toUInt32 &&& Int32.toUInt32 31)).toInt32) &&& m = (x >>> (nI n &&& 31)) &&& m := by
  refine Int32.toBitVec_inj.mp (BitVec.eq_of_getLsbD_eq (fun i hi => ?_))
  rw [Int32.toBitVec_and, Int32.toBitVec_and, BitVec.getLsbD_and, BitVec.getLsbD_and]
  by_cases h : k ≤ i
  · rw [hm i hi h, Bool.and_false, Bool.and_false]
  · congr 1
    have e1 : (x.toUInt32 >>> ((nI n).toUInt32 &&& Int32.toUInt32 31)).toBitVec = x.toBitVec >>> n := by
      rw [UInt32.toBitVec_shiftRight]
      show x.toUInt32.toBitVec >>> (((nI n).toUInt32 &&& Int32.toUInt32 31).toBitVec % 32).toNat = _
      rw [zsu n hn]; rfl
    have e2 : (x >>> (nI n &&& 31)).toBitVec = x.toBitVec.sshiftRight n := by
      rw [Int32.toBitVec_shiftRight]
      show x.toBitVec.sshiftRight ((nI n &&& 31).toBitVec.smod 32).toNat = _
      rw [zsl n hn]
    show (x.toUInt32 >>> ((nI n).toUInt32 &&& Int32.toUInt32 31)).toBitVec.getLsbD i = _
    rw [e1, e2, BitVec.getLsbD_ushiftRight, BitVec.getLsbD_sshiftRight, if_pos (by omega)]
    simp; omega
theorem zm255 : ∀ i, i < 32 → 8 ≤ i → (255 : Int32).toBitVec.getLsbD i = false := by decide +kernel
theorem zmk1 : ∀ i, i < 32 → 1 ≤ i → (1 : Int32).toBitVec.getLsbD i = false := by decide +kernel
theorem znat (x : Int32) : x = nI x.toBitVec.toNat := by
  apply Int32.toBitVec_inj.mp
  show x.toBitVec = BitVec.ofNat 32 x.toBitVec.toNat
  simp
theorem zmask (x : Int32) (m : Nat) (hm : m < 2 ^ 31) : ∃ b, b ≤ m ∧ x &&& nI m = nI b := by
  refine ⟨_, ?_, znat _⟩
  rw [Int32.toBitVec_and, BitVec.toNat_and]
  refine Nat.le_trans Nat.and_le_right (Nat.le_of_eq ?_)
  show (BitVec.ofNat 32 m).toNat = m
  rw [BitVec.toNat_ofNat, Nat.mod_eq_of_lt (by omega)]
