/-! feed: one byte of a long -/
def bytN (x : Int64) (sh : Nat) : Nat := nL x / 2 ^ sh % 256
theorem ush_F : ∀ j : Fin 64, (((nI j.val).toInt64.toUInt64 &&& Int64.toUInt64 63).toBitVec % 64).toNat = j.val := by decide +kernel
theorem byt_u {x : Int64} {sh : Nat} (h : sh < 64) : (((x.toUInt64 >>> ((nI sh).toInt64.toUInt64 &&& Int64.toUInt64 63)).toInt64 &&& (255 : Int64))).toInt32 = nI (bytN x sh) := by
  have e := nL_ushr x (nI sh) sh (ush_F ⟨sh, h⟩)
  have e2 : (x.toUInt64 >>> ((nI sh).toInt64.toUInt64 &&& Int64.toUInt64 63)).toInt64 &&& (255 : Int64) = lN (bytN x sh) := by
    apply lN_of
    rw [nL_and, e, show nL (255 : Int64) = 2 ^ 8 - 1 from by decide, Nat.and_two_pow_sub_one_eq_mod]
    rfl
  rw [e2, lN_i]
theorem byt_s {x : Int64} {sh : Nat} (h : sh ≤ 56) : (((x >>> ((nI sh).toInt64 &&& 63)) &&& (255 : Int64))).toInt32 = nI (bytN x sh) := by
  rw [← byt_u (show sh < 64 by omega)]
  congr 1
  apply Int64.toBitVec_inj.mp
  have e1 : (x >>> ((nI sh).toInt64 &&& 63)).toBitVec = x.toBitVec.sshiftRight sh := by
    show x.toBitVec.sshiftRight (((nI sh).toInt64 &&& 63).toBitVec.smod 64).toNat = _
    rw [sh_F ⟨sh, by omega⟩]
  have e2 : (x.toUInt64 >>> ((nI sh).toInt64.toUInt64 &&& Int64.toUInt64 63)).toInt64.toBitVec = x.toBitVec >>> sh := by
    show x.toBitVec >>> (((nI sh).toInt64.toUInt64 &&& Int64.toUInt64 63).toBitVec % 64).toNat = _
    rw [ush_F ⟨sh, by omega⟩]
  rw [Int64.toBitVec_and, Int64.toBitVec_and, e1, e2]
  apply BitVec.eq_of_getLsbD_eq
  intro i hi
  rw [BitVec.getLsbD_and, BitVec.getLsbD_and]
  by_cases h8 : i < 8
  · rw [BitVec.getLsbD_sshiftRight, BitVec.getLsbD_ushiftRight]
    have : sh + i < 64 := by omega
    simp [hi, this, show ¬ 64 ≤ i from by omega]
  · have : (255 : Int64).toBitVec.getLsbD i = false := by
      show (255 : Nat).testBit i = false
      exact Nat.testBit_lt_two_pow (Nat.lt_of_lt_of_le (show 255 < 2 ^ 8 by decide) (Nat.pow_le_pow_right (by decide) (by omega)))
    rw [this, Bool.and_false, Bool.and_false]
/-- a tape: how many codes, and the codes; one code fed -/
def okTape (v : Nat) : Bool := decide (v = 10) || (decide (32 ≤ v) && decide (v ≤ 126))
def tapeS (T : Nat × (Nat → Nat)) (v : Nat) : Nat × (Nat → Nat) := if okTape v = true ∧ T.1 < 1000 then (T.1 + 1, set1 T.2 T.1 v) else T
theorem nar_F : ∀ v : Fin 127, vp_nar .byte ((nI v.val).toInt8.toInt32) = nI v.val := by decide +kernel
theorem bytN_lt {x : Int64} {sh : Nat} : bytN x sh < 256 := Nat.mod_lt _ (by decide)
