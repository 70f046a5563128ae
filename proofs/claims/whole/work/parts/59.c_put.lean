/-! ===== the class: the tape ===== -/
theorem and255 (x : Int32) : ∃ c : Nat, c < 256 ∧ x &&& 255 = iI (c : Nat) := by
  refine ⟨x.toBitVec.toNat &&& 255, ?_, ?_⟩
  · exact Nat.lt_succ_of_le Nat.and_le_right
  · apply Int32.toBitVec_inj.mp
    apply BitVec.eq_of_toNat_eq
    rw [Int32.toBitVec_and, BitVec.toNat_and]
    have h : x.toBitVec.toNat &&& 255 < 4294967296 := Nat.lt_of_le_of_lt Nat.and_le_right (by decide)
    rw [show iI ((x.toBitVec.toNat &&& 255 : Nat)) = Int32.ofNat (x.toBitVec.toNat &&& 255) by rw [← nI_iI]; rfl, Int32.toBitVec_ofNat', BitVec.toNat_ofNat, Nat.mod_eq_of_lt h]
    rfl
theorem sb_cast : ∀ c, c < 256 → ((iI (c : Nat)).toInt8.toInt32).toInt8.toInt32 = iI (sb (c : Nat)) := by decide +kernel
theorem by_amt : ∀ k, k < 4 → ((((iI (24 - 8 * ((k : Nat) : Int))).toUInt32 &&& Int32.toUInt32 31).toBitVec % 32).toNat = 24 - 8 * k) ∧ (((iI (24 - 8 * ((k : Nat) : Int)) &&& 31).toBitVec.smod 32).toNat = 24 - 8 * k) := by decide +kernel
theorem by_cut (v : Int32) {k : Nat} (hk : k < 4) : ((v.toUInt32 >>> ((iI (24 - 8 * ((k : Nat) : Int))).toUInt32 &&& Int32.toUInt32 31)).toInt32).toInt8 = (by4 v k).toInt8 := by
  apply Int8.toBitVec_inj.mp
  show (v.toBitVec >>> (((iI (24 - 8 * ((k : Nat) : Int))).toUInt32 &&& Int32.toUInt32 31).toBitVec % 32)).signExtend 8 = ((v.toBitVec.sshiftRight' ((iI (24 - 8 * ((k : Nat) : Int)) &&& 31).toBitVec.smod 32)) &&& 255#32).signExtend 8
  rw [BitVec.ushiftRight_eq', (by_amt k hk).1, BitVec.sshiftRight', (by_amt k hk).2]
  apply BitVec.eq_of_getLsbD_eq
  intro i hi
  have h255 : ∀ i, i < 8 → (255#32).getLsbD i = true := by decide
  rw [BitVec.getLsbD_signExtend, BitVec.getLsbD_signExtend, BitVec.getLsbD_and, BitVec.getLsbD_ushiftRight, BitVec.getLsbD_sshiftRight, h255 i hi]
  simp only [show i < 32 by omega, show 24 - 8 * k + i < 32 by omega, if_true, show ¬ 32 ≤ i by omega, decide_false, Bool.not_false, Bool.true_and, Bool.and_true]
theorem by_sb (v : Int32) {k : Nat} (hk : k < 4) : ∃ c : Nat, c < 256 ∧ by4 v k = iI (c : Nat) ∧ (((v.toUInt32 >>> ((iI (24 - 8 * ((k : Nat) : Int))).toUInt32 &&& Int32.toUInt32 31)).toInt32).toInt8.toInt32).toInt8.toInt32 = iI (sb (c : Nat)) := by
  obtain ⟨c, hc, e⟩ := and255 (v >>> (iI (24 - 8 * (k : Int)) &&& 31))
  have e' : by4 v k = iI (c : Nat) := e
  exact ⟨c, hc, e', by rw [by_cut v hk, e', sb_cast c hc]⟩
def byC (v : Int32) (k : Nat) : Int32 := (((v.toUInt32 >>> ((iI (24 - 8 * ((k : Nat) : Int))).toUInt32 &&& Int32.toUInt32 31)).toInt32).toInt8.toInt32).toInt8.toInt32
theorem C_put {d : Nat} {v : Int32} {P0 P : PS} {R : List PS} {Q : Option AV → List PS → Prop} {n : Int} (hn : gI P 0 1 = iI n) (h0 : 0 ≤ n) (h1 : n + 4 ≤ 1500)
    (h : ∀ P', Fr [1] [] [0] [] P P' → gI P' 0 1 = iI (n + 4) → (∀ i : Nat, gA P' 0 0 i = if n ≤ i ∧ (i : Int) < n + 4 then byC v (i - n.toNat) else gA P 0 0 i) → Q none (P0 :: P' :: R)) : Tri 99 d [vR 1 0 0, vI v] (P0 :: P :: R) Q := by
  refine enX9_put ?_
  refine gX9_put_3 ⟨fun q => absurd q (by decide), fun _ => ⟨fun q => absurd q ?_, fun _ => ⟨?_, gX9_put_3 ⟨fun q => absurd q (by decide), fun _ => ⟨fun q => absurd q ?_, fun _ => ⟨?_, gX9_put_3 ⟨fun q => absurd q (by decide), fun _ => ⟨fun q => absurd q ?_, fun _ => ⟨?_, gX9_put_3 ⟨fun q => absurd q (by decide), fun _ => ⟨fun q => absurd q ?_, fun _ => ⟨?_, gX9_put_3 ⟨fun _ => ?_, fun q => absurd (by decide) q⟩⟩⟩⟩⟩⟩⟩⟩⟩⟩⟩⟩⟩
  all_goals simp only [gI_sI, gI_sL, gI_sA, gI_sB, gI_sO, gI_sR, gI_sW, gL_sI, gL_sL, gL_sA, gL_sB, gL_sO, gL_sR, gL_sW, gA_sI, gA_sL, gA_sA, gA_sB, gA_sO, gA_sR, gB_sI, gB_sL, gB_sA, gB_sB, gB_sO, gB_sR, gB_sW, gO_sI, gO_sL, gO_sA, gO_sB, gO_sO, gO_sR, gO_sW, gR_sI, gR_sL, gR_sA, gR_sB, gR_sO, gR_sR, gR_sW, gN_sI, gN_sL, gN_sA, gN_sB, gN_sO, gN_sR, gN_sW, hn, iI_lit, iI_add, if_pos, if_true, iI_neg]
  · rw [iI_le (by omega) (by omega) (by omega) (by omega)]; omega
  · rw [iI_in (by omega) (by omega)]; omega
  · rw [iI_le (by omega) (by omega) (by omega) (by omega)]; omega
  · rw [iI_in (by omega) (by omega)]; omega
  · rw [iI_le (by omega) (by omega) (by omega) (by omega)]; omega
  · rw [iI_in (by omega) (by omega)]; omega
  · rw [iI_le (by omega) (by omega) (by omega) (by omega)]; omega
  · rw [iI_in (by omega) (by omega)]; omega
  · have e0 : (iI n).toNatClampNeg = n.toNat := iI_cl (by omega) (by omega)
    have e1 : (iI (n + 1)).toNatClampNeg = n.toNat + 1 := by rw [iI_cl (by omega) (by omega)]; omega
    have e2 : (iI (n + 1 + 1)).toNatClampNeg = n.toNat + 2 := by rw [iI_cl (by omega) (by omega)]; omega
    have e3 : (iI (n + 1 + 1 + 1)).toNatClampNeg = n.toNat + 3 := by rw [iI_cl (by omega) (by omega)]; omega
    refine h _ ⟨rfl, fun a ha => ?_, fun a ha => ?_, fun a i ha => ?_, fun a i ha => ?_⟩ ?_ (fun i => ?_)
    · simp only [List.mem_singleton] at ha
      simp only [gI_sI, gI_sL, gI_sA, gI_sB, gI_sO, gI_sR, gI_sW, gL_sI, gL_sL, gL_sA, gL_sB, gL_sO, gL_sR, gL_sW, gA_sI, gA_sL, gA_sA, gA_sB, gA_sO, gA_sR, gB_sI, gB_sL, gB_sA, gB_sB, gB_sO, gB_sR, gB_sW, gO_sI, gO_sL, gO_sA, gO_sB, gO_sO, gO_sR, gO_sW, gR_sI, gR_sL, gR_sA, gR_sB, gR_sO, gR_sR, gR_sW, gN_sI, gN_sL, gN_sA, gN_sB, gN_sO, gN_sR, gN_sW, if_neg ha]
    · simp only [gI_sI, gI_sL, gI_sA, gI_sB, gI_sO, gI_sR, gI_sW, gL_sI, gL_sL, gL_sA, gL_sB, gL_sO, gL_sR, gL_sW, gA_sI, gA_sL, gA_sA, gA_sB, gA_sO, gA_sR, gB_sI, gB_sL, gB_sA, gB_sB, gB_sO, gB_sR, gB_sW, gO_sI, gO_sL, gO_sA, gO_sB, gO_sO, gO_sR, gO_sW, gR_sI, gR_sL, gR_sA, gR_sB, gR_sO, gR_sR, gR_sW, gN_sI, gN_sL, gN_sA, gN_sB, gN_sO, gN_sR, gN_sW]
    · simp only [List.mem_singleton] at ha
      simp only [gI_sI, gI_sL, gI_sA, gI_sB, gI_sO, gI_sR, gI_sW, gL_sI, gL_sL, gL_sA, gL_sB, gL_sO, gL_sR, gL_sW, gA_sI, gA_sL, gA_sA, gA_sB, gA_sO, gA_sR, gB_sI, gB_sL, gB_sA, gB_sB, gB_sO, gB_sR, gB_sW, gO_sI, gO_sL, gO_sA, gO_sB, gO_sO, gO_sR, gO_sW, gR_sI, gR_sL, gR_sA, gR_sB, gR_sO, gR_sR, gR_sW, gN_sI, gN_sL, gN_sA, gN_sB, gN_sO, gN_sR, gN_sW, if_neg ha]
    · simp only [gI_sI, gI_sL, gI_sA, gI_sB, gI_sO, gI_sR, gI_sW, gL_sI, gL_sL, gL_sA, gL_sB, gL_sO, gL_sR, gL_sW, gA_sI, gA_sL, gA_sA, gA_sB, gA_sO, gA_sR, gB_sI, gB_sL, gB_sA, gB_sB, gB_sO, gB_sR, gB_sW, gO_sI, gO_sL, gO_sA, gO_sB, gO_sO, gO_sR, gO_sW, gR_sI, gR_sL, gR_sA, gR_sB, gR_sO, gR_sR, gR_sW, gN_sI, gN_sL, gN_sA, gN_sB, gN_sO, gN_sR, gN_sW]
    · simp only [gI_sI, gI_sL, gI_sA, gI_sB, gI_sO, gI_sR, gI_sW, gL_sI, gL_sL, gL_sA, gL_sB, gL_sO, gL_sR, gL_sW, gA_sI, gA_sL, gA_sA, gA_sB, gA_sO, gA_sR, gB_sI, gB_sL, gB_sA, gB_sB, gB_sO, gB_sR, gB_sW, gO_sI, gO_sL, gO_sA, gO_sB, gO_sO, gO_sR, gO_sW, gR_sI, gR_sL, gR_sA, gR_sB, gR_sO, gR_sR, gR_sW, gN_sI, gN_sL, gN_sA, gN_sB, gN_sO, gN_sR, gN_sW, if_pos, if_true]
      congr 1; omega
    · simp only [gI_sI, gI_sL, gI_sA, gI_sB, gI_sO, gI_sR, gI_sW, gL_sI, gL_sL, gL_sA, gL_sB, gL_sO, gL_sR, gL_sW, gA_sI, gA_sL, gA_sA, gA_sB, gA_sO, gA_sR, gB_sI, gB_sL, gB_sA, gB_sB, gB_sO, gB_sR, gB_sW, gO_sI, gO_sL, gO_sA, gO_sB, gO_sO, gO_sR, gO_sW, gR_sI, gR_sL, gR_sA, gR_sB, gR_sO, gR_sR, gR_sW, gN_sI, gN_sL, gN_sA, gN_sB, gN_sO, gN_sR, gN_sW, if_pos, if_true, e0, e1, e2, e3]
      by_cases c3 : i = n.toNat + 3
      · subst c3; rw [if_pos rfl, if_pos (by omega), show n.toNat + 3 - n.toNat = 3 by omega]; rfl
      rw [if_neg c3]
      by_cases c2 : i = n.toNat + 2
      · subst c2; rw [if_pos rfl, if_pos (by omega), show n.toNat + 2 - n.toNat = 2 by omega]; rfl
      rw [if_neg c2]
      by_cases c1 : i = n.toNat + 1
      · subst c1; rw [if_pos rfl, if_pos (by omega), show n.toNat + 1 - n.toNat = 1 by omega]; rfl
      rw [if_neg c1]
      by_cases c0 : i = n.toNat
      · subst c0; rw [if_pos rfl, if_pos (by omega), show n.toNat - n.toNat = 0 by omega]; rfl
      rw [if_neg c0, if_neg (by omega)]
