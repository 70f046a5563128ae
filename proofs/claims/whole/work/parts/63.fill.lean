/-! ===== Arrays.fill on a story's columns ===== -/
def cFs (z : Nat × Nat × Nat × Nat) (d j : Nat) (v x : Int32) (P0 P1 P2 P3 P4 P5 P6 : PS) (R : List PS) (Q : Option AV → List PS → Prop) : Prop := Go mJ7_fill_53178 z d 5 [(0, vR 6 j 4), (1, vI v), (2, vI x), (3, vI (16 : Int32))] [] (P0 :: P1 :: P2 :: P3 :: P4 :: P5 :: P6 :: R) Q
def fFs (z : Nat × Nat × Nat × Nat) (d j : Nat) (v x : Int32) (P0 P1 P2 P3 P4 P5 P6 : PS) (R : List PS) (Q : Option AV → List PS → Prop) : Prop := ((16 : Int32) ≤ x → Q none (P0 :: P1 :: P2 :: P3 :: P4 :: P5 :: P6 :: R)) ∧ (¬ (16 : Int32) ≤ x → vp_in x 16 ∧ cFs z d j v (x + (1 : Int32)) P0 P1 P2 P3 P4 P5 (sA P6 j 3 (x.toNatClampNeg) v) R Q)
set_option maxRecDepth 100000 in
theorem gFs {z : Nat × Nat × Nat × Nat} {d j : Nat} {v x : Int32} {P0 P1 P2 P3 P4 P5 P6 : PS} {R : List PS} {Q : Option AV → List PS → Prop} (h : fFs z d j v x P0 P1 P2 P3 P4 P5 P6 R Q) : cFs z d j v x P0 P1 P2 P3 P4 P5 P6 R Q := Go.run (p := 7) (cuts := [(5, [0, 1, 2, 3])]) okJ7_fill_53178 21 h
set_option maxRecDepth 100000 in
theorem enFs {d j : Nat} {v : Int32} {P0 P1 P2 P3 P4 P5 P6 : PS} {R : List PS} {Q : Option AV → List PS → Prop} (h : cFs (0, 0, 0, 0) d j v (0 : Int32) P0 P1 P2 P3 P4 P5 P6 R Q) : Tri 302 d [vR 6 j 4, vI v] (P0 :: P1 :: P2 :: P3 :: P4 :: P5 :: P6 :: R) Q := Tri_of (by decide +kernel) rfl (Go.run (p := 7) (cuts := [(5, [0, 1, 2, 3])]) okJ7_fill_53178 21 h)
theorem C_fillS {d j : Nat} {v : Int32} {P0 P1 P2 P3 P4 P5 P6 : PS} {R : List PS} {Q : Option AV → List PS → Prop} (h : ∀ P', (∀ i, i < 16 → gA P' j 3 i = v) → FrJ j P6 P' → (∀ a, gI P' j a = gI P6 j a) → (∀ a i, a ≠ 3 → gA P' j a i = gA P6 j a i) → (∀ a i, gR P' j a i = gR P6 j a i) → Q none (P0 :: P1 :: P2 :: P3 :: P4 :: P5 :: P' :: R)) : Tri 302 d [vR 6 j 4, vI v] (P0 :: P1 :: P2 :: P3 :: P4 :: P5 :: P6 :: R) Q := by
  refine enFs ?_
  have key : ∀ m k : Nat, ∀ P : PS, k + m = 16 → (∀ i, i < k → gA P j 3 i = v) → FrJ j P6 P → (∀ a, gI P j a = gI P6 j a) → (∀ a i, a ≠ 3 → gA P j a i = gA P6 j a i) → (∀ a i, gR P j a i = gR P6 j a i) → cFs (0, 0, 0, 0) d j v (iI (k : Nat)) P0 P1 P2 P3 P4 P5 P R Q := by
    intro m
    induction m with
    | zero =>
      intro k P hk h1 h2 h3 h4 h5
      refine gFs ?_
      unfold fFs
      rw [show (16 : Int32) = iI 16 from rfl, iI_le (by omega) (by omega) (by omega) (by omega)]
      exact ⟨fun _ => h P (fun i hi => h1 i (by omega)) h2 h3 h4 h5, fun c => absurd (by omega) c⟩
    | succ m ih =>
      intro k P hk h1 h2 h3 h4 h5
      refine gFs ?_
      unfold fFs
      rw [show (16 : Int32) = iI 16 from rfl, iI_le (by omega) (by omega) (by omega) (by omega), iI_in (by omega) (by omega), iI_cl (by omega) (by omega), show ((k : Nat) : Int).toNat = k by omega, show (1 : Int32) = iI 1 from rfl, iI_add]
      refine ⟨fun c => absurd c (by omega), fun _ => ⟨by omega, ih (k + 1) _ (by omega) (fun i hi => ?_) h2.sA h3 (fun a i ha => ?_) h5⟩⟩
      · rw [gA_sA, if_pos rfl, if_pos rfl]
        by_cases c : i = k
        · rw [if_pos c]
        · rw [if_neg c]; exact h1 i (by omega)
      · rw [gA_sA, if_neg ha]; exact h4 a i ha
  exact key 16 0 P6 (by omega) (fun i hi => absurd hi (Nat.not_lt_zero i)) FrJ.rf (fun _ => rfl) (fun _ _ _ => rfl) (fun _ _ => rfl)
theorem C_storyClear {d j : Nat} {P0 P1 P2 P3 P4 P5 P6 : PS} {R : List PS} {Q : Option AV → List PS → Prop} (h : ∀ P', gI P' j 4 = iI 0 → gI P' j 6 = iI 0 → gI P' j 5 = gI P6 j 5 → gI P' j 7 = gI P6 j 7 → (∀ i, i < 16 → gA P' j 3 i = iI 0) → FrJ j P6 P' → (∀ a i, a ≠ 3 → gA P' j a i = gA P6 j a i) → (∀ a i, gR P' j a i = gR P6 j a i) → Q none (P0 :: P1 :: P2 :: P3 :: P4 :: P5 :: P' :: R)) : Tri 75 (d + 1) [vR 6 j 0] (P0 :: P1 :: P2 :: P3 :: P4 :: P5 :: P6 :: R) Q := by
  refine enX7_clear ?_
  unfold fX7_clear_0
  refine C_fillS (fun P' h1 h2 h3 h4 h5 => ?_)
  dsimp only [hx7, rV]
  refine h P' ?_ ?_ ?_ ?_ h1 (FrJ.rf.sI.sI.tr h2) h4 h5
  all_goals rw [h3]; simp only [gI_sI, gI_sL, gI_sA, gI_sB, gI_sO, gI_sR, gI_sW, gL_sI, gL_sL, gL_sA, gL_sB, gL_sO, gL_sR, gL_sW, gA_sI, gA_sL, gA_sA, gA_sB, gA_sO, gA_sR, gB_sI, gB_sL, gB_sA, gB_sB, gB_sO, gB_sR, gB_sW, gO_sI, gO_sL, gO_sA, gO_sB, gO_sO, gO_sR, gO_sW, gR_sI, gR_sL, gR_sA, gR_sB, gR_sO, gR_sR, gR_sW, gN_sI, gN_sL, gN_sA, gN_sB, gN_sO, gN_sR, gN_sW, if_true, if_false, Nat.reduceEqDiff, reduceIte]
  all_goals rfl
