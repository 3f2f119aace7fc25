/-! ===== bytes of an int ===== -/
def bq (x : Int32) (k : Nat) : Nat := x.toBitVec.toNat / 2 ^ k % 256
theorem bq_lt {x : Int32} {k : Nat} : bq x k < 256 := Nat.mod_lt _ (by decide)
theorem b255 : ∀ i : Fin 32, ((255 : Int32).toBitVec.getLsbD i.val) = decide (i.val < 8) := by decide +kernel
theorem low8 {y : Int32} {v : Nat} (hv : v < 256) (h : ∀ i, i < 8 → y.toBitVec.getLsbD i = v.testBit i) : y &&& 255 = nI v := by
  apply Int32.toBitVec_inj.mp
  apply BitVec.eq_of_getLsbD_eq
  intro i hi
  rw [Int32.toBitVec_and, BitVec.getLsbD_and, b255 ⟨i, hi⟩]
  have e : (nI v).toBitVec.getLsbD i = v.testBit i := by
    show (BitVec.ofNat 32 v).getLsbD i = _
    rw [BitVec.getLsbD_ofNat, decide_eq_true hi, Bool.true_and]
  rw [e]
  by_cases c : i < 8
  · rw [h i c, decide_eq_true c, Bool.and_true]
  · rw [decide_eq_false c, Bool.and_false]
    have : v.testBit i = false := by
      cases ht : v.testBit i with
      | false => rfl
      | true => exact absurd (tb_lt (m := 8) hv ht) c
    rw [this]
theorem bq_tb {x : Int32} {k i : Nat} (hi : i < 8) : (bq x k).testBit i = x.toBitVec.getLsbD (k + i) := by
  unfold bq
  rw [show (256 : Nat) = 2 ^ 8 from rfl, Nat.testBit_mod_two_pow, decide_eq_true hi, Bool.true_and, Nat.testBit_div_two_pow]
  rw [Nat.add_comm]
  rfl
theorem ku31 : ∀ k : Fin 32, (Int32.toUInt32 (nI k.val) &&& Int32.toUInt32 31).toNat % 32 = k.val := by decide +kernel
theorem by_c {x : Int32} {k : Nat} (hk : k ≤ 24) : ((x.toUInt32 >>> (Int32.toUInt32 (nI k) &&& Int32.toUInt32 31)).toInt32) &&& 255 = nI (bq x k) := by
  refine low8 bq_lt (fun i hi => ?_)
  rw [bq_tb hi]
  show (x.toUInt32 >>> (Int32.toUInt32 (nI k) &&& Int32.toUInt32 31)).toNat.testBit i = _
  rw [UInt32.toNat_shiftRight, ku31 ⟨k, by omega⟩, Nat.testBit_shiftRight]
  rfl
theorem sar_b {x : Int32} {k i : Nat} (hk : k ≤ 24) (hi : i < 8) : (x >>> (nI k &&& 31)).toBitVec.getLsbD i = x.toBitVec.getLsbD (k + i) := by
  have e : ((nI k &&& nI 31).toBitVec.smod 32).toNat = k := sh31 k (by omega)
  have e2 : (x >>> (nI k &&& 31)).toBitVec = x.toBitVec.sshiftRight' ((nI k &&& nI 31).toBitVec.smod 32) := rfl
  rw [e2, BitVec.getLsbD_sshiftRight', e, if_pos (by omega), decide_eq_false (by omega)]
  rfl
theorem by_r {x : Int32} {k : Nat} (hk : k ≤ 24) : (x >>> (nI k &&& 31)) &&& 255 = nI (bq x k) := low8 bq_lt (fun i hi => by rw [bq_tb hi, sar_b hk hi])
theorem by_s {x : Int32} {k : Nat} (hk : k ≤ 24) : (pm_nar 2 ((Int32.toInt8 (x >>> (nI k &&& 31))).toInt32)) &&& 255 = nI (bq x k) := by
  refine low8 bq_lt (fun i hi => ?_)
  have e : pm_nar 2 ((Int32.toInt8 (x >>> (nI k &&& 31))).toInt32) = ((Int32.toInt8 (x >>> (nI k &&& 31))).toInt32).toInt8.toInt32 := vp_nar_byte _
  have up : ∀ y : Int32, (y.toInt8.toInt32).toBitVec.getLsbD i = y.toBitVec.getLsbD i := by
    intro y
    rw [Int8.toBitVec_toInt32, BitVec.getLsbD_signExtend, if_pos hi, decide_eq_true (by omega), Bool.true_and, Int32.toBitVec_toInt8, BitVec.getLsbD_signExtend, if_pos (by omega), decide_eq_true hi, Bool.true_and]
  rw [e, up, up, bq_tb hi, sar_b hk hi]
