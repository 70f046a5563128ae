/-! ===== the class: the tape ===== -/
theorem and255 (x : Int32) : ∃ c : Nat, c < 256 ∧ x &&& 255 = iI (c : Nat) := by
  refine ⟨x.toBitVec.toNat &&& 255, ?_, ?_⟩
  · exact Nat.lt_succ_of_le Nat.and_le_right
  · apply Int32.toBitVec_inj.mp
    apply BitVec.eq_of_toNat_eq
    rw [Int32.toBitVec_and, BitVec.toNat_and]
    have h : x.toBitVec.toNat &&& 255 < 4294967296 := Nat.lt_of_le_of_lt Nat.and_le_right (by decide)
    rw [show iI ((x.toBitVec.toNat &&& 255 : Nat)) = Int32.ofNat (x.toBitVec.toNat &&& 255) by rw [← nI_iI]; rfl, Int32.toBitVec_ofNat', BitVec.toNat_ofNat, Nat.mod_eq_of_lt h]
    rfl
theorem sb_cast : ∀ c, c < 256 → ((iI (c : Nat)).toInt8.toInt32).toInt8.toInt32 = iI (sb (c : Nat)) := by decide +kernel
theorem by_amt : ∀ k, k < 4 → ((((iI (24 - 8 * ((k : Nat) : Int))).toUInt32 &&& Int32.toUInt32 31).toBitVec % 32).toNat = 24 - 8 * k) ∧ (((iI (24 - 8 * ((k : Nat) : Int)) &&& 31).toBitVec.smod 32).toNat = 24 - 8 * k) := by decide +kernel
theorem by_cut (v : Int32) {k : Nat} (hk : k < 4) : ((v.toUInt32 >>> ((iI (24 - 8 * ((k : Nat) : Int))).toUInt32 &&& Int32.toUInt32 31)).toInt32).toInt8 = (by4 v k).toInt8 := by
  apply Int8.toBitVec_inj.mp
  show (v.toBitVec >>> (((iI (24 - 8 * ((k : Nat) : Int))).toUInt32 &&& Int32.toUInt32 31).toBitVec % 32)).signExtend 8 = ((v.toBitVec.sshiftRight' ((iI (24 - 8 * ((k : Nat) : Int)) &&& 31).toBitVec.smod 32)) &&& 255#32).signExtend 8
  rw [BitVec.ushiftRight_eq', (by_amt k hk).1, BitVec.sshiftRight', (by_amt k hk).2]
  apply BitVec.eq_of_getLsbD_eq
  intro i hi
  have h255 : ∀ i, i < 8 → (255#32).getLsbD i = true := by decide
  rw [BitVec.getLsbD_signExtend, BitVec.getLsbD_signExtend, BitVec.getLsbD_and, BitVec.getLsbD_ushiftRight, BitVec.getLsbD_sshiftRight, h255 i hi]
  simp only [show i < 32 by omega, show 24 - 8 * k + i < 32 by omega, if_true, show ¬ 32 ≤ i by omega, decide_false, Bool.not_false, Bool.true_and, Bool.and_true]
theorem by_sb (v : Int32) {k : Nat} (hk : k < 4) : ∃ c : Nat, c < 256 ∧ by4 v k = iI (c : Nat) ∧ (((v.toUInt32 >>> ((iI (24 - 8 * ((k : Nat) : Int))).toUInt32 &&& Int32.toUInt32 31)).toInt32).toInt8.toInt32).toInt8.toInt32 = iI (sb (c : Nat)) := by
  obtain ⟨c, hc, e⟩ := and255 (v >>> (iI (24 - 8 * (k : Int)) &&& 31))
  have e' : by4 v k = iI (c : Nat) := e
  exact ⟨c, hc, e', by rw [by_cut v hk, e', sb_cast c hc]⟩
