/-! ===== the Model: the tape ===== -/
/-- the k-th byte of a number, the highest first -/
def by4 (v : Int32) (k : Nat) : Int32 := (v >>> (iI (24 - 8 * (k : Int)) &&& 31)) &&& 255
theorem M_four {d : Nat} {v : Int32} {P : PS} {R : List PS} {Q : Option AV → List PS → Prop} {n : Int} (hn : gI P 0 1 = iI n) (h0 : 0 ≤ n) (h1 : n + 4 ≤ 1500)
    (h : ∀ P', Fr [1] [] [0] [] P P' → gI P' 0 1 = iI (n + 4) → (∀ i : Nat, gA P' 0 0 i = if n ≤ i ∧ (i : Int) < n + 4 then by4 v (i - n.toNat) else gA P 0 0 i) → Q none (P' :: R)) : Tri 172 d [vR 0 0 0, vI v] (P :: R) Q := by
  refine enX12_four ?_
  refine gX12_four_3 ⟨fun q => absurd q (by decide), fun _ => ⟨?_, gX12_four_3 ⟨fun q => absurd q (by decide), fun _ => ⟨?_, gX12_four_3 ⟨fun q => absurd q (by decide), fun _ => ⟨?_, gX12_four_3 ⟨fun q => absurd q (by decide), fun _ => ⟨?_, gX12_four_3 ⟨fun _ => ?_, fun q => absurd (by decide) q⟩⟩⟩⟩⟩⟩⟩⟩⟩
  all_goals simp only [gI_sI, gI_sL, gI_sA, gI_sB, gI_sO, gI_sR, gI_sW, gL_sI, gL_sL, gL_sA, gL_sB, gL_sO, gL_sR, gL_sW, gA_sI, gA_sL, gA_sA, gA_sB, gA_sO, gA_sR, gB_sI, gB_sL, gB_sA, gB_sB, gB_sO, gB_sR, gB_sW, gO_sI, gO_sL, gO_sA, gO_sB, gO_sO, gO_sR, gO_sW, gR_sI, gR_sL, gR_sA, gR_sB, gR_sO, gR_sR, gR_sW, gN_sI, gN_sL, gN_sA, gN_sB, gN_sO, gN_sR, gN_sW, hn, iI_lit, iI_add, if_pos, if_true, iI_neg]
  · rw [iI_in (by omega) (by omega)]; omega
  · rw [iI_in (by omega) (by omega)]; omega
  · rw [iI_in (by omega) (by omega)]; omega
  · rw [iI_in (by omega) (by omega)]; omega
  · have e0 : (iI n).toNatClampNeg = n.toNat := iI_cl (by omega) (by omega)
    have e1 : (iI (n + 1)).toNatClampNeg = n.toNat + 1 := by rw [iI_cl (by omega) (by omega)]; omega
    have e2 : (iI (n + 1 + 1)).toNatClampNeg = n.toNat + 2 := by rw [iI_cl (by omega) (by omega)]; omega
    have e3 : (iI (n + 1 + 1 + 1)).toNatClampNeg = n.toNat + 3 := by rw [iI_cl (by omega) (by omega)]; omega
    refine h _ ⟨rfl, fun a ha => ?_, fun a ha => ?_, fun a i ha => ?_, fun a i ha => ?_⟩ ?_ (fun i => ?_)
    · simp only [List.mem_singleton] at ha
      simp only [gI_sI, gI_sL, gI_sA, gI_sB, gI_sO, gI_sR, gI_sW, gL_sI, gL_sL, gL_sA, gL_sB, gL_sO, gL_sR, gL_sW, gA_sI, gA_sL, gA_sA, gA_sB, gA_sO, gA_sR, gB_sI, gB_sL, gB_sA, gB_sB, gB_sO, gB_sR, gB_sW, gO_sI, gO_sL, gO_sA, gO_sB, gO_sO, gO_sR, gO_sW, gR_sI, gR_sL, gR_sA, gR_sB, gR_sO, gR_sR, gR_sW, gN_sI, gN_sL, gN_sA, gN_sB, gN_sO, gN_sR, gN_sW, if_neg ha]
    · simp only [gI_sI, gI_sL, gI_sA, gI_sB, gI_sO, gI_sR, gI_sW, gL_sI, gL_sL, gL_sA, gL_sB, gL_sO, gL_sR, gL_sW, gA_sI, gA_sL, gA_sA, gA_sB, gA_sO, gA_sR, gB_sI, gB_sL, gB_sA, gB_sB, gB_sO, gB_sR, gB_sW, gO_sI, gO_sL, gO_sA, gO_sB, gO_sO, gO_sR, gO_sW, gR_sI, gR_sL, gR_sA, gR_sB, gR_sO, gR_sR, gR_sW, gN_sI, gN_sL, gN_sA, gN_sB, gN_sO, gN_sR, gN_sW]
    · simp only [List.mem_singleton] at ha
      simp only [gI_sI, gI_sL, gI_sA, gI_sB, gI_sO, gI_sR, gI_sW, gL_sI, gL_sL, gL_sA, gL_sB, gL_sO, gL_sR, gL_sW, gA_sI, gA_sL, gA_sA, gA_sB, gA_sO, gA_sR, gB_sI, gB_sL, gB_sA, gB_sB, gB_sO, gB_sR, gB_sW, gO_sI, gO_sL, gO_sA, gO_sB, gO_sO, gO_sR, gO_sW, gR_sI, gR_sL, gR_sA, gR_sB, gR_sO, gR_sR, gR_sW, gN_sI, gN_sL, gN_sA, gN_sB, gN_sO, gN_sR, gN_sW, if_neg ha]
    · simp only [gI_sI, gI_sL, gI_sA, gI_sB, gI_sO, gI_sR, gI_sW, gL_sI, gL_sL, gL_sA, gL_sB, gL_sO, gL_sR, gL_sW, gA_sI, gA_sL, gA_sA, gA_sB, gA_sO, gA_sR, gB_sI, gB_sL, gB_sA, gB_sB, gB_sO, gB_sR, gB_sW, gO_sI, gO_sL, gO_sA, gO_sB, gO_sO, gO_sR, gO_sW, gR_sI, gR_sL, gR_sA, gR_sB, gR_sO, gR_sR, gR_sW, gN_sI, gN_sL, gN_sA, gN_sB, gN_sO, gN_sR, gN_sW]
    · simp only [gI_sI, gI_sL, gI_sA, gI_sB, gI_sO, gI_sR, gI_sW, gL_sI, gL_sL, gL_sA, gL_sB, gL_sO, gL_sR, gL_sW, gA_sI, gA_sL, gA_sA, gA_sB, gA_sO, gA_sR, gB_sI, gB_sL, gB_sA, gB_sB, gB_sO, gB_sR, gB_sW, gO_sI, gO_sL, gO_sA, gO_sB, gO_sO, gO_sR, gO_sW, gR_sI, gR_sL, gR_sA, gR_sB, gR_sO, gR_sR, gR_sW, gN_sI, gN_sL, gN_sA, gN_sB, gN_sO, gN_sR, gN_sW, if_pos, if_true]
      congr 1; omega
    · simp only [gI_sI, gI_sL, gI_sA, gI_sB, gI_sO, gI_sR, gI_sW, gL_sI, gL_sL, gL_sA, gL_sB, gL_sO, gL_sR, gL_sW, gA_sI, gA_sL, gA_sA, gA_sB, gA_sO, gA_sR, gB_sI, gB_sL, gB_sA, gB_sB, gB_sO, gB_sR, gB_sW, gO_sI, gO_sL, gO_sA, gO_sB, gO_sO, gO_sR, gO_sW, gR_sI, gR_sL, gR_sA, gR_sB, gR_sO, gR_sR, gR_sW, gN_sI, gN_sL, gN_sA, gN_sB, gN_sO, gN_sR, gN_sW, if_pos, if_true, e0, e1, e2, e3]
      by_cases c3 : i = n.toNat + 3
      · subst c3; rw [if_pos rfl, if_pos (by omega), show n.toNat + 3 - n.toNat = 3 by omega]; rfl
      rw [if_neg c3]
      by_cases c2 : i = n.toNat + 2
      · subst c2; rw [if_pos rfl, if_pos (by omega), show n.toNat + 2 - n.toNat = 2 by omega]; rfl
      rw [if_neg c2]
      by_cases c1 : i = n.toNat + 1
      · subst c1; rw [if_pos rfl, if_pos (by omega), show n.toNat + 1 - n.toNat = 1 by omega]; rfl
      rw [if_neg c1]
      by_cases c0 : i = n.toNat
      · subst c0; rw [if_pos rfl, if_pos (by omega), show n.toNat - n.toNat = 0 by omega]; rfl
      rw [if_neg c0, if_neg (by omega)]
