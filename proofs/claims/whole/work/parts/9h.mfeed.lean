/-! FEEDING, in the reference -/
theorem byte_sb {y : Int32} {v : Nat} (hv : v ≤ 255) (h : y &&& w 255 = w v) : (y.toInt8.toInt32).toInt8.toInt32 = w (sb v) := by
  have h1 : (y &&& w 255).toBitVec.toNat = v := by
    rw [h]
    have : (w (v : Int)).toNatClampNeg = v := w_cln (by omega)
    rw [← this]
    have hi : (w (v : Int)).toInt = v := w_toInt (by omega) (by omega)
    have hj : (w (v : Int)).toBitVec.toInt = v := hi
    rw [this]
    rw [BitVec.toInt_eq_toNat_cond] at hj
    split at hj <;> omega
  rw [Int32.toBitVec_and, BitVec.toNat_and] at h1
  have h2 : y.toBitVec.toNat % 256 = v := by
    rw [← h1]
    exact (Nat.and_two_pow_sub_one_eq_mod _ 8).symm
  have h3 : y.toInt % 256 = v := by
    have : y.toInt = y.toBitVec.toInt := rfl
    rw [this, BitVec.toInt_eq_toNat_cond]
    split <;> omega
  apply Int32.toInt_inj.mp
  have hs := sb_ok v (by omega)
  have he : sb v = if v < 128 then (v : Int) else v - 256 := rfl
  rw [w_toInt (by omega) (by omega), Int8.toInt_toInt32, Int32.toInt_toInt8, Int8.toInt_toInt32, Int32.toInt_toInt8, Int.bmod_bmod, Int.bmod_def, he]
  have e8 : ((2 ^ 8 : Nat) : Int) = 256 := rfl
  rw [e8, h3]
  split <;> split <;> omega
theorem shr_bv (b : BitVec 32) {k : Nat} (hk : k ≤ 24) : b.sshiftRight k &&& 255#32 = b >>> k &&& 255#32 := by
  apply BitVec.eq_of_getLsbD_eq
  intro i hi
  rw [BitVec.getLsbD_and, BitVec.getLsbD_and, BitVec.getLsbD_sshiftRight, BitVec.getLsbD_ushiftRight]
  by_cases e : i < 8
  · rw [if_pos (by omega)]
    have : (!decide (32 ≤ i)) = true := by simp; omega
    rw [this, Bool.true_and]
  · have : (255#32).getLsbD i = false := by
      have h1 : (255#32).toNat = 255 := rfl
      rw [← BitVec.testBit_toNat, h1]
      exact Nat.testBit_lt_two_pow (Nat.lt_of_lt_of_le (by decide : 255 < 2 ^ 8) (Nat.pow_le_pow_right (by omega) (by omega)))
    rw [this, Bool.and_false, Bool.and_false]
theorem shr_and (x : Int32) {f : Nat} (hf : f < 4) : (x >>> (w (8 * (f : Int)) &&& 31)) &&& w 255 = w (byt x f) := by
  rw [← (byt_w x f).1]
  apply Int32.toBitVec_inj.mp
  rcases (show f = 0 ∨ f = 1 ∨ f = 2 ∨ f = 3 by omega) with rfl | rfl | rfl | rfl
  · exact shr_bv x.toBitVec (k := 0) (by omega)
  · exact shr_bv x.toBitVec (k := 8) (by omega)
  · exact shr_bv x.toBitVec (k := 16) (by omega)
  · exact shr_bv x.toBitVec (k := 24) (by omega)
