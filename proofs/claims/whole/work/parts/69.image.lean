/-! ===== IMAGE, BACK: both sides ===== -/
abbrev imA : List Nat := [87, 88, 89, 90, 91, 92, 93]
def ImM (k : Nat) (P P' : PS) : Prop := Blk (gA P' 0 89) (gA P 0 23) (gA P 0 89) (3072 * k) 3072 ∧ Blk (gA P' 0 90) (gA P 0 25) (gA P 0 90) (12 * k) 12 ∧ Blk (gA P' 0 91) (gA P 0 26) (gA P 0 91) (12 * k) 12 ∧ Blk (gA P' 0 88) (gA P 0 27) (gA P 0 88) (256 * k) 256 ∧ (∀ i, gA P' 0 92 i = if i = k then gI P 0 28 else gA P 0 92 i) ∧ (∀ i, gA P' 0 93 i = if i = k then gI P 0 29 else gA P 0 93 i) ∧ (∀ i, gA P' 0 87 i = if i = k then 1 else gA P 0 87 i)
theorem M_image {d : Nat} {a : Int} {P : PS} {R : List PS} {Q : Option AV → List PS → Prop} (ha : -2147483648 ≤ a ∧ a < 2147483648) (hz : ∀ i, i < 256 → gA P 0 27 i = 0 ∨ gA P 0 27 i = 1)
    (hy : ∀ P', 0 ≤ a → a < 3 → ImM a.toNat P P' → Fr [] [] imA [] P P' → Q (some (vI (gI P 0 28))) (P' :: R)) (hn : ¬ (0 ≤ a ∧ a < 3) → Q (some (vI (iI (-1)))) (P :: R)) : Tri 282 (d + 1) [vR 0 0 0, vI (iI a)] (P :: R) Q := by
  refine enX12_image ?_
  unfold fX12_image_0
  refine M_isBox ha ?_
  dsimp only [hx1, rI]
  rw [oI_dec]
  refine ⟨fun c => ?_, fun c => hn c⟩
  have c' := Decidable.not_not.mp c
  obtain ⟨k, rfl⟩ : ∃ k : Nat, a = (k : Nat) := ⟨a.toNat, by omega⟩
  rw [iI_in (by omega) (by omega), iI_cl (by omega) (by omega), Int.toNat_natCast]
  refine ⟨by omega, Or.inr rfl, M_image18 (by omega) (fun A b1 f1 => M_image51 (by omega) (fun B b2 b3 f2 => M_image99 (by omega) (fun i hi => ?_) (fun C b4 f3 => ?_)))⟩
  · have e : gA B 0 27 i = gA P 0 27 i := by rw [f2.2.2.2.1 _ _ (by simp), f1.2.2.2.1 _ _ (by simp)]; rfl
    rw [e]; exact hz i hi
  · have e1 : gI C 0 28 = gI P 0 28 := by rw [f3.2.1 _ (by simp), f2.2.1 _ (by simp), f1.2.1 _ (by simp)]; rfl
    have e2 : gI C 0 29 = gI P 0 29 := by rw [f3.2.1 _ (by simp), f2.2.1 _ (by simp), f1.2.1 _ (by simp)]; rfl
    have q1 : Fr [] [] imA [] P A := (Fr.rf.sA (by simp)).trs (f1.mono (by simp) (by simp) (by simp) (by simp))
    have q2 : Fr [] [] imA [] P B := q1.trs (f2.mono (by simp) (by simp) (by simp) (by simp))
    have q3 : Fr [] [] imA [] P C := q2.trs (f3.mono (by simp) (by simp) (by simp) (by simp))
    rw [e1, e2]
    refine hy _ (by omega) (by omega) ⟨?_, ?_, ?_, ?_, fun i => ?_, fun i => ?_, fun i => ?_⟩ ((q3.sA (by simp)).sA (by simp))
    · intro i
      show gA C 0 89 i = _
      rw [f3.2.2.2.1 _ _ (by simp), f2.2.2.2.1 _ _ (by simp), b1 i]; rfl
    · intro i
      show gA C 0 90 i = _
      rw [f3.2.2.2.1 _ _ (by simp), b2 i, f1.2.2.2.1 _ _ (by simp), f1.2.2.2.1 _ _ (by simp)]; rfl
    · intro i
      show gA C 0 91 i = _
      rw [f3.2.2.2.1 _ _ (by simp), b3 i, f1.2.2.2.1 _ _ (by simp), f1.2.2.2.1 _ _ (by simp)]; rfl
    · intro i
      show gA C 0 88 i = _
      rw [b4 i, f2.2.2.2.1 _ _ (by simp), f1.2.2.2.1 _ _ (by simp), f2.2.2.2.1 _ _ (by simp), f1.2.2.2.1 _ _ (by simp)]; rfl
    · simp only [gI_sI, gI_sL, gI_sA, gI_sB, gI_sO, gI_sR, gI_sW, gL_sI, gL_sL, gL_sA, gL_sB, gL_sO, gL_sR, gL_sW, gA_sI, gA_sL, gA_sA, gA_sB, gA_sO, gA_sR, gB_sI, gB_sL, gB_sA, gB_sB, gB_sO, gB_sR, gB_sW, gO_sI, gO_sL, gO_sA, gO_sB, gO_sO, gO_sR, gO_sW, gR_sI, gR_sL, gR_sA, gR_sB, gR_sO, gR_sR, gR_sW, gN_sI, gN_sL, gN_sA, gN_sB, gN_sO, gN_sR, gN_sW, if_true, if_false, Nat.reduceEqDiff, reduceIte, Int.toNat_natCast]
      by_cases c : i = k
      · rw [if_pos c, if_pos c]
      · rw [if_neg c, if_neg c, f3.2.2.2.1 _ _ (by simp), f2.2.2.2.1 _ _ (by simp), f1.2.2.2.1 _ _ (by simp)]; rfl
    · simp only [gI_sI, gI_sL, gI_sA, gI_sB, gI_sO, gI_sR, gI_sW, gL_sI, gL_sL, gL_sA, gL_sB, gL_sO, gL_sR, gL_sW, gA_sI, gA_sL, gA_sA, gA_sB, gA_sO, gA_sR, gB_sI, gB_sL, gB_sA, gB_sB, gB_sO, gB_sR, gB_sW, gO_sI, gO_sL, gO_sA, gO_sB, gO_sO, gO_sR, gO_sW, gR_sI, gR_sL, gR_sA, gR_sB, gR_sO, gR_sR, gR_sW, gN_sI, gN_sL, gN_sA, gN_sB, gN_sO, gN_sR, gN_sW, if_true, if_false, Nat.reduceEqDiff, reduceIte, Int.toNat_natCast]
      by_cases c : i = k
      · rw [if_pos c, if_pos c]
      · rw [if_neg c, if_neg c, f3.2.2.2.1 _ _ (by simp), f2.2.2.2.1 _ _ (by simp), f1.2.2.2.1 _ _ (by simp)]; rfl
    · show gA C 0 87 i = _
      rw [f3.2.2.2.1 _ _ (by simp), f2.2.2.2.1 _ _ (by simp), f1.2.2.2.1 _ _ (by simp), gA_sA, if_pos rfl, if_pos rfl, Int.toNat_natCast]
abbrev baI : List Nat := [28, 29]
abbrev baA : List Nat := [27, 23, 25, 26]
def BaM (k : Nat) (P P' : PS) : Prop := Blk (gA P' 0 23) (fun i => gA P 0 89 (3072 * k + i)) (gA P 0 23) 0 3072 ∧ Blk (gA P' 0 25) (fun i => gA P 0 90 (12 * k + i)) (gA P 0 25) 0 12 ∧ Blk (gA P' 0 26) (fun i => gA P 0 91 (12 * k + i)) (gA P 0 26) 0 12 ∧ Blk (gA P' 0 27) (fun i => gA P 0 88 (256 * k + i)) (gA P 0 27) 0 256 ∧ gI P' 0 28 = gA P 0 92 k ∧ gI P' 0 29 = gA P 0 93 k
theorem M_back {d : Nat} {a : Int} {P : PS} {R : List PS} {Q : Option AV → List PS → Prop} (ha : -2147483648 ≤ a ∧ a < 2147483648) (hz : ∀ k i, k < 3 → gA P 0 87 k ≠ 0 → i < 256 → gA P 0 88 (256 * k + i) = 0 ∨ gA P 0 88 (256 * k + i) = 1)
    (hy : ∀ P', 0 ≤ a → a < 3 → gA P 0 87 a.toNat ≠ 0 → BaM a.toNat P P' → Fr baI [] baA [] P P' → Q (some (vI (gA P 0 92 a.toNat))) (P' :: R)) (hn : ¬ (0 ≤ a ∧ a < 3 ∧ gA P 0 87 a.toNat ≠ 0) → Q (some (vI (iI (-1)))) (P :: R)) : Tri 283 (d + 1) [vR 0 0 0, vI (iI a)] (P :: R) Q := by
  refine enX12_back ?_
  unfold fX12_back_0
  refine M_isBox ha ?_
  dsimp only [hx1, rI]
  rw [oI_dec]
  refine ⟨fun c => hn (fun q => c ⟨q.1, q.2.1⟩), fun c => ?_⟩
  have c' := Decidable.not_not.mp c
  obtain ⟨k, rfl⟩ : ∃ k : Nat, a = (k : Nat) := ⟨a.toNat, by omega⟩
  rw [iI_in (by omega) (by omega), iI_cl (by omega) (by omega), Int.toNat_natCast]
  rw [Int.toNat_natCast] at hy hn
  refine ⟨by omega, fun ch => ?_, fun ch => hn (fun q => q.2.2 ch)⟩
  refine M_back20 (by omega) (fun A b1 f1 => M_back53 (by omega) (fun B b2 b3 f2 => M_back101 (by omega) (fun i hi => ?_) (fun C b4 f3 => ?_)))
  · rw [f2.2.2.2.1 _ _ (by simp), f1.2.2.2.1 _ _ (by simp)]; exact hz k i (by omega) ch hi
  · have e1 : gA C 0 92 k = gA P 0 92 k := by rw [f3.2.2.2.1 _ _ (by simp), f2.2.2.2.1 _ _ (by simp), f1.2.2.2.1 _ _ (by simp)]
    have e2 : gA C 0 93 k = gA P 0 93 k := by rw [f3.2.2.2.1 _ _ (by simp), f2.2.2.2.1 _ _ (by simp), f1.2.2.2.1 _ _ (by simp)]
    have q1 : Fr baI [] baA [] P A := f1.mono (by simp) (by simp) (by simp) (by simp)
    have q2 : Fr baI [] baA [] P B := q1.trs (f2.mono (by simp) (by simp) (by simp) (by simp))
    have q3 : Fr baI [] baA [] P C := q2.trs (f3.mono (by simp) (by simp) (by simp) (by simp))
    rw [e1, e2]
    refine hy _ (by omega) (by omega) ch ⟨?_, ?_, ?_, ?_, rfl, rfl⟩ ((q3.sI (by simp)).sI (by simp))
    · intro i
      show gA C 0 23 i = _
      rw [f3.2.2.2.1 _ _ (by simp), f2.2.2.2.1 _ _ (by simp), b1 i]
    · intro i
      show gA C 0 25 i = _
      rw [f3.2.2.2.1 _ _ (by simp), b2 i, f1.2.2.2.1 _ _ (by simp)]
      dsimp only
      rw [f1.2.2.2.1 _ _ (by simp)]
    · intro i
      show gA C 0 26 i = _
      rw [f3.2.2.2.1 _ _ (by simp), b3 i, f1.2.2.2.1 _ _ (by simp)]
      dsimp only
      rw [f1.2.2.2.1 _ _ (by simp)]
    · intro i
      show gA C 0 27 i = _
      rw [b4 i, f2.2.2.2.1 _ _ (by simp), f1.2.2.2.1 _ _ (by simp)]
      dsimp only
      rw [f2.2.2.2.1 _ _ (by simp), f1.2.2.2.1 _ _ (by simp)]
/-- the story j is now what the story k was -/
def CpC (j k : Nat) (P P' : PS) : Prop := FrJ j P P' ∧ (∀ i, i < 12 → gR P' j 0 i = gR P k 0 i) ∧ (∀ i, i < 12 → gA P' j 1 i = gA P k 1 i) ∧ (∀ i, i < 12 → gA P' j 2 i = gA P k 2 i) ∧ (∀ i, i < 16 → gA P' j 3 i = gA P k 3 i) ∧ gI P' j 4 = gI P k 4 ∧ gI P' j 5 = gI P k 5 ∧ gI P' j 6 = gI P k 6 ∧ gI P' j 7 = gI P j 7
theorem FrJ.sR {j a i : Nat} {v : Option Nat} {P P' : PS} (h : FrJ j P P') : FrJ j P (sR P' j a i v) := ⟨h.1, fun j' hj => ⟨(h.2 j' hj).1, (h.2 j' hj).2.1, (h.2 j' hj).2.2.1, (h.2 j' hj).2.2.2.1, (h.2 j' hj).2.2.2.2.1, fun a' i' => by rw [gR_sR]; rw [if_neg hj]; split <;> exact (h.2 j' hj).2.2.2.2.2 a' i'⟩⟩
theorem FrJ.sW {j a : Nat} {v : Nat → Int32} {P P' : PS} (h : FrJ j P P') : FrJ j P (sW P' j a v) := ⟨h.1, fun j' hj => ⟨(h.2 j' hj).1, (h.2 j' hj).2.1, fun a' i' => by rw [gA_sW]; rw [if_neg hj]; split <;> exact (h.2 j' hj).2.2.1 a' i', (h.2 j' hj).2.2.2⟩⟩
theorem gA2_sW (P : PS) (j a : Nat) (f : Nat → Int32) (j1 a1 : Nat) : gA (sW P j a f) j1 a1 = if a1 = a then (if j1 = j then f else gA P j1 a1) else gA P j1 a1 := rfl
theorem C_copyFrom {d j k : Nat} {P0 P1 P2 P3 P4 P5 P : PS} {R : List PS} {Q : Option AV → List PS → Prop} (hjk : j ≠ k) (h : ∀ P', CpC j k P P' → Q none (P0 :: P1 :: P2 :: P3 :: P4 :: P5 :: P' :: R)) : Tri 76 d [vR 6 j 0, vR 6 k 0] (P0 :: P1 :: P2 :: P3 :: P4 :: P5 :: P :: R) Q := by
  refine enX7_copyFrom ?_
  unfold fX7_copyFrom_0
  have key : ∀ m i : Nat, ∀ A : PS, i + m = 12 → FrJ j P A → (∀ i', i' < i → gR A j 0 i' = gR P k 0 i') → (∀ a, gI A j a = gI P j a) → (∀ a i, gA A j a i = gA P j a i) → cX7_copyFrom_2 (0, 0, 0, 0) d j k (iI (i : Nat)) P0 P1 P2 P3 P4 P5 A R Q := by
    intro m
    induction m with
    | zero =>
      intro i A hi f g gi ga
      refine gX7_copyFrom_2 ?_
      unfold fX7_copyFrom_2
      rw [show (12 : Int32) = iI 12 from rfl, iI_le (by omega) (by omega) (by omega) (by omega)]
      have hkj : ¬ k = j := fun e => hjk e.symm
      have hk := f.2 k (fun e => hjk e.symm)
      refine ⟨fun _ => ⟨by decide, by decide, by decide, by decide, by decide, fun q => hjk q.2.1.symm, by decide, by decide, by decide, by decide, by decide, fun q => hjk q.2.1.symm, by decide, by decide, by decide, by decide, by decide, fun q => hjk q.2.1.symm, ?_⟩, fun c => absurd (by omega) c⟩
      refine h _ ⟨f.sW.sW.sW.sI.sI.sI, fun i' hi' => ?_, fun i' hi' => ?_, fun i' hi' => ?_, fun i' hi' => ?_, ?_, ?_, ?_, ?_⟩
      · show gR A j 0 i' = _
        exact g i' (by omega)
      · simp only [gI_sI, gI_sL, gI_sA, gI_sB, gI_sO, gI_sR, gI_sW, gL_sI, gL_sL, gL_sA, gL_sB, gL_sO, gL_sR, gL_sW, gA_sI, gA_sL, gA_sA, gA_sB, gA_sO, gA_sR, gB_sI, gB_sL, gB_sA, gB_sB, gB_sO, gB_sR, gB_sW, gO_sI, gO_sL, gO_sA, gO_sB, gO_sO, gO_sR, gO_sW, gR_sI, gR_sL, gR_sA, gR_sB, gR_sO, gR_sR, gR_sW, gN_sI, gN_sL, gN_sA, gN_sB, gN_sO, gN_sR, gN_sW, if_true, if_false, Nat.reduceEqDiff, reduceIte, gA2_sW, if_neg hkj]
        show va_cpy (gA A k 1) _ 0 0 12 i' = _
        unfold va_cpy
        rw [if_pos (by omega)]
        rw [show 0 + (i' - 0) = i' by omega]; exact hk.2.2.1 _ _
      · simp only [gI_sI, gI_sL, gI_sA, gI_sB, gI_sO, gI_sR, gI_sW, gL_sI, gL_sL, gL_sA, gL_sB, gL_sO, gL_sR, gL_sW, gA_sI, gA_sL, gA_sA, gA_sB, gA_sO, gA_sR, gB_sI, gB_sL, gB_sA, gB_sB, gB_sO, gB_sR, gB_sW, gO_sI, gO_sL, gO_sA, gO_sB, gO_sO, gO_sR, gO_sW, gR_sI, gR_sL, gR_sA, gR_sB, gR_sO, gR_sR, gR_sW, gN_sI, gN_sL, gN_sA, gN_sB, gN_sO, gN_sR, gN_sW, if_true, if_false, Nat.reduceEqDiff, reduceIte, gA2_sW, if_neg hkj]
        show va_cpy (gA A k 2) _ 0 0 12 i' = _
        unfold va_cpy
        rw [if_pos (by omega)]
        rw [show 0 + (i' - 0) = i' by omega]; exact hk.2.2.1 _ _
      · simp only [gI_sI, gI_sL, gI_sA, gI_sB, gI_sO, gI_sR, gI_sW, gL_sI, gL_sL, gL_sA, gL_sB, gL_sO, gL_sR, gL_sW, gA_sI, gA_sL, gA_sA, gA_sB, gA_sO, gA_sR, gB_sI, gB_sL, gB_sA, gB_sB, gB_sO, gB_sR, gB_sW, gO_sI, gO_sL, gO_sA, gO_sB, gO_sO, gO_sR, gO_sW, gR_sI, gR_sL, gR_sA, gR_sB, gR_sO, gR_sR, gR_sW, gN_sI, gN_sL, gN_sA, gN_sB, gN_sO, gN_sR, gN_sW, if_true, if_false, Nat.reduceEqDiff, reduceIte, gA2_sW, if_neg hkj]
        show va_cpy (gA A k 3) _ 0 0 16 i' = _
        unfold va_cpy
        rw [if_pos (by omega)]
        rw [show 0 + (i' - 0) = i' by omega]; exact hk.2.2.1 _ _
      · simp only [gI_sI, gI_sL, gI_sA, gI_sB, gI_sO, gI_sR, gI_sW, gL_sI, gL_sL, gL_sA, gL_sB, gL_sO, gL_sR, gL_sW, gA_sI, gA_sL, gA_sA, gA_sB, gA_sO, gA_sR, gB_sI, gB_sL, gB_sA, gB_sB, gB_sO, gB_sR, gB_sW, gO_sI, gO_sL, gO_sA, gO_sB, gO_sO, gO_sR, gO_sW, gR_sI, gR_sL, gR_sA, gR_sB, gR_sO, gR_sR, gR_sW, gN_sI, gN_sL, gN_sA, gN_sB, gN_sO, gN_sR, gN_sW, if_true, if_false, Nat.reduceEqDiff, reduceIte]; exact hk.1 _
      · simp only [gI_sI, gI_sL, gI_sA, gI_sB, gI_sO, gI_sR, gI_sW, gL_sI, gL_sL, gL_sA, gL_sB, gL_sO, gL_sR, gL_sW, gA_sI, gA_sL, gA_sA, gA_sB, gA_sO, gA_sR, gB_sI, gB_sL, gB_sA, gB_sB, gB_sO, gB_sR, gB_sW, gO_sI, gO_sL, gO_sA, gO_sB, gO_sO, gO_sR, gO_sW, gR_sI, gR_sL, gR_sA, gR_sB, gR_sO, gR_sR, gR_sW, gN_sI, gN_sL, gN_sA, gN_sB, gN_sO, gN_sR, gN_sW, if_true, if_false, Nat.reduceEqDiff, reduceIte]; exact hk.1 _
      · simp only [gI_sI, gI_sL, gI_sA, gI_sB, gI_sO, gI_sR, gI_sW, gL_sI, gL_sL, gL_sA, gL_sB, gL_sO, gL_sR, gL_sW, gA_sI, gA_sL, gA_sA, gA_sB, gA_sO, gA_sR, gB_sI, gB_sL, gB_sA, gB_sB, gB_sO, gB_sR, gB_sW, gO_sI, gO_sL, gO_sA, gO_sB, gO_sO, gO_sR, gO_sW, gR_sI, gR_sL, gR_sA, gR_sB, gR_sO, gR_sR, gR_sW, gN_sI, gN_sL, gN_sA, gN_sB, gN_sO, gN_sR, gN_sW, if_true, if_false, Nat.reduceEqDiff, reduceIte]; exact hk.1 _
      · simp only [gI_sI, gI_sL, gI_sA, gI_sB, gI_sO, gI_sR, gI_sW, gL_sI, gL_sL, gL_sA, gL_sB, gL_sO, gL_sR, gL_sW, gA_sI, gA_sL, gA_sA, gA_sB, gA_sO, gA_sR, gB_sI, gB_sL, gB_sA, gB_sB, gB_sO, gB_sR, gB_sW, gO_sI, gO_sL, gO_sA, gO_sB, gO_sO, gO_sR, gO_sW, gR_sI, gR_sL, gR_sA, gR_sB, gR_sO, gR_sR, gR_sW, gN_sI, gN_sL, gN_sA, gN_sB, gN_sO, gN_sR, gN_sW, if_true, if_false, Nat.reduceEqDiff, reduceIte]; exact gi _
    | succ m ih =>
      intro i A hi f g gi ga
      refine gX7_copyFrom_2 ?_
      unfold fX7_copyFrom_2
      have hk := f.2 k (fun e => hjk e.symm)
      rw [show (12 : Int32) = iI 12 from rfl, iI_le (by omega) (by omega) (by omega) (by omega), iI_in (by omega) (by omega), iI_cl (a := (i : Nat)) (by omega) (by omega), Int.toNat_natCast, show (1 : Int32) = iI 1 from rfl, iI_add]
      refine ⟨fun c => absurd c (by omega), fun _ => ⟨by omega, ?_⟩⟩
      have st : cX7_copyFrom_2 (0, 0, 0, 0) d j k (iI ((i : Nat) + 1)) P0 P1 P2 P3 P4 P5 (sR A j 0 i (gR A k 0 i)) R Q := by
        refine ih (i + 1) _ (by omega) f.sR (fun i' hi' => ?_) gi ga
        rw [gR_sR, if_pos rfl, if_pos rfl]
        by_cases c : i' = i
        · rw [if_pos c, c]; exact hk.2.2.2.2.2 _ _
        · rw [if_neg c]; exact g i' (by omega)
      cases e : gR A k 0 i with
      | none => rw [e] at st; exact ⟨by omega, st⟩
      | some q => rw [e] at st; exact ⟨by omega, st⟩
  exact key 12 0 P (by omega) FrJ.rf (fun i' hi' => absurd hi' (Nat.not_lt_zero i')) (fun _ => rfl) (fun _ _ => rfl)
theorem C_image {d : Nat} {a : Int} {P0 P1 P2 P3 P4 P5 P P7 P8 P9 P10 P11 P12 : PS} {R : List PS} {Q : Option AV → List PS → Prop} (ha : -2147483648 ≤ a ∧ a < 2147483648) (hb : ∀ i, i < 3 → gR P12 0 8 i = some (i + 1))
    (hy : ∀ P', 0 ≤ a → a < 3 → CpC (a.toNat + 1) 0 P P' → Q (some (vI (gI P 0 4))) (P0 :: P1 :: P2 :: P3 :: P4 :: P5 :: (sI P' (a.toNat + 1) 7 1) :: P7 :: P8 :: P9 :: P10 :: P11 :: P12 :: R)) (hn : ¬ (0 ≤ a ∧ a < 3) → Q (some (vI (iI (-1)))) (P0 :: P1 :: P2 :: P3 :: P4 :: P5 :: P :: P7 :: P8 :: P9 :: P10 :: P11 :: P12 :: R)) : Tri 155 (d + 1) [vR 12 0 0, vI (iI a)] (P0 :: P1 :: P2 :: P3 :: P4 :: P5 :: P :: P7 :: P8 :: P9 :: P10 :: P11 :: P12 :: R) Q := by
  refine enX11_image ?_
  unfold fX11_image_0
  simp (disch := omega) only [iI_lit, iI_lt, iI_in, iI_cl]
  refine ⟨fun c => hn (by omega), fun c => ⟨fun c1 => ⟨by omega, ?_⟩, fun c1 => hn (by omega)⟩⟩
  rw [hb a.toNat (by omega)]
  simp only [oM]
  refine C_copyFrom (by omega) (fun P' hc => ?_)
  dsimp only [hx13, rV]
  rw [hb a.toNat (by omega)]
  refine ⟨by omega, Or.inr trivial, ?_⟩
  have e : gI P' 0 4 = gI P 0 4 := (hc.1.2 0 (by omega)).1 _
  rw [e]
  exact hy P' (by omega) (by omega) hc
theorem C_back {d : Nat} {a : Int} {P0 P1 P2 P3 P4 P5 P P7 P8 P9 P10 P11 P12 : PS} {R : List PS} {Q : Option AV → List PS → Prop} (ha : -2147483648 ≤ a ∧ a < 2147483648) (hb : ∀ i, i < 3 → gR P12 0 8 i = some (i + 1))
    (hy : ∀ P', 0 ≤ a → a < 3 → gI P (a.toNat + 1) 7 ≠ 0 → CpC 0 (a.toNat + 1) P P' → Q (some (vI (gI P (a.toNat + 1) 4))) (P0 :: P1 :: P2 :: P3 :: P4 :: P5 :: P' :: P7 :: P8 :: P9 :: P10 :: P11 :: P12 :: R)) (hn : ¬ (0 ≤ a ∧ a < 3 ∧ gI P (a.toNat + 1) 7 ≠ 0) → Q (some (vI (iI (-1)))) (P0 :: P1 :: P2 :: P3 :: P4 :: P5 :: P :: P7 :: P8 :: P9 :: P10 :: P11 :: P12 :: R)) : Tri 156 (d + 1) [vR 12 0 0, vI (iI a)] (P0 :: P1 :: P2 :: P3 :: P4 :: P5 :: P :: P7 :: P8 :: P9 :: P10 :: P11 :: P12 :: R) Q := by
  refine enX11_back ?_
  unfold fX11_back_0
  simp (disch := omega) only [show (0 : Int32) = iI 0 from rfl, show (3 : Int32) = iI 3 from rfl, iI_lt, iI_le, iI_in, iI_cl]
  refine ⟨fun c => hn (by omega), fun c => ⟨fun c1 => hn (by omega), fun c1 => ⟨by omega, ?_⟩⟩⟩
  rw [hb a.toNat (by omega)]
  simp only [oM]
  refine ⟨fun q => ⟨by omega, C_copyFrom (by omega) (fun P' hc => ?_)⟩, fun q => hn (fun g => g.2.2 q)⟩
  dsimp only [hx13, rV]
  rw [hc.2.2.2.2.2.1]
  exact hy P' (by omega) (by omega) q hc
