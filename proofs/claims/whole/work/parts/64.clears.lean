/-! ===== the class: what is forgotten ===== -/
theorem C_forget {d : Nat} {P0 P1 P2 P3 P4 P5 : PS} {R : List PS} {Q : Option AV → List PS → Prop} (h : ∀ P', gI P' 0 10 = iI 0 → gI P' 0 11 = iI 0 → gI P' 0 12 = iI 0 → gI P' 0 13 = iI 0 → Fr [10, 11, 12, 13] [] [] [] P5 P' → Q none (P0 :: P1 :: P2 :: P3 :: P4 :: P' :: R)) : Tri 86 d [vR 5 0 0] (P0 :: P1 :: P2 :: P3 :: P4 :: P5 :: R) Q := by
  refine enX8_forget ?_
  unfold fX8_forget_0
  exact ⟨Or.inl rfl, Or.inl rfl, Or.inl rfl, Or.inl rfl, h _ rfl rfl rfl rfl ((((Fr.rf.sI (by simp)).sI (by simp)).sI (by simp)).sI (by simp))⟩
theorem C_rulesClear {d j : Nat} {P0 P1 P2 P3 P4 : PS} {R : List PS} {Q : Option AV → List PS → Prop} (h : ∀ P', gI P' j 4 = iI 0 → gI P' j 5 = iI 0 → gI P' j 6 = iI 0 → FrJ j P4 P' → Q none (P0 :: P1 :: P2 :: P3 :: P' :: R)) : Tri 55 d [vR 4 j 0] (P0 :: P1 :: P2 :: P3 :: P4 :: R) Q := by
  refine enX5_clear ?_
  unfold fX5_clear_0
  refine h _ ?_ ?_ ?_ FrJ.rf.sI.sI.sI
  all_goals simp only [gI_sI, gI_sL, gI_sA, gI_sB, gI_sO, gI_sR, gI_sW, gL_sI, gL_sL, gL_sA, gL_sB, gL_sO, gL_sR, gL_sW, gA_sI, gA_sL, gA_sA, gA_sB, gA_sO, gA_sR, gB_sI, gB_sL, gB_sA, gB_sB, gB_sO, gB_sR, gB_sW, gO_sI, gO_sL, gO_sA, gO_sB, gO_sO, gO_sR, gO_sW, gR_sI, gR_sL, gR_sA, gR_sB, gR_sO, gR_sR, gR_sW, gN_sI, gN_sL, gN_sA, gN_sB, gN_sO, gN_sR, gN_sW, if_true, if_false, Nat.reduceEqDiff, reduceIte]
  all_goals rfl
