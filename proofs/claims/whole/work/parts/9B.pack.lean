/-! ===== the class: a NAMING in one number ===== -/
def bl (x : Int64) : Nat := x.toBitVec.toNat
def pkN (w : Nat → Nat) : Nat → Nat
  | 0 => 0
  | n + 1 => pkN w n + w n * 64 ^ n
theorem pkN_lt {w : Nat → Nat} (h : ∀ q, w q < 64) : ∀ n, pkN w n < 64 ^ n
  | 0 => Nat.one_pos
  | n + 1 => by
    have h1 := pkN_lt h n
    have h2 : w n * 64 ^ n ≤ 63 * 64 ^ n := Nat.mul_le_mul_right _ (by have := h n; omega)
    show pkN w n + w n * 64 ^ n < 64 ^ (n + 1)
    rw [Nat.pow_succ]
    omega
theorem pkN_dig {w : Nat → Nat} (h : ∀ q, w q < 64) : ∀ n q, q < n → pkN w n / 64 ^ q % 64 = w q
  | 0, q, hq => absurd hq (Nat.not_lt_zero q)
  | n + 1, q, hq => by
    show (pkN w n + w n * 64 ^ n) / 64 ^ q % 64 = w q
    by_cases c : q = n
    · subst c
      rw [Nat.add_mul_div_right _ _ (Nat.pow_pos (by omega)), Nat.div_eq_of_lt (pkN_lt h q), Nat.zero_add, Nat.mod_eq_of_lt (h q)]
    · obtain ⟨e, rfl⟩ : ∃ e, n = q + (e + 1) := ⟨n - q - 1, by omega⟩
      have e1 : w (q + (e + 1)) * 64 ^ (q + (e + 1)) = (w (q + (e + 1)) * 64 ^ e * 64) * 64 ^ q := by
        rw [Nat.pow_add, Nat.pow_succ, Nat.mul_comm (64 ^ q), ← Nat.mul_assoc, ← Nat.mul_assoc]
      rw [e1, Nat.add_mul_div_right _ _ (Nat.pow_pos (by omega)), Nat.add_mul_mod_self_right]
      exact pkN_dig h _ q (by omega)
theorem bl_shl : ∀ q, q < 6 → ∀ w, w < 64 → bl ((iI (w : Nat)).toInt64 <<< (((6 : Int32) * iI (q : Nat)).toInt64 &&& 63)) = w * 64 ^ q := by decide +kernel
theorem bl_or {x y : Int64} {q w : Nat} (hx : bl x < 64 ^ q) (hy : bl y = w * 64 ^ q) : bl (x ||| y) = bl x + w * 64 ^ q := by
  have e : bl (x ||| y) = bl x ||| bl y := by unfold bl; rw [Int64.toBitVec_or, BitVec.toNat_or]
  have p : (64 : Nat) ^ q = 2 ^ (6 * q) := by rw [Nat.pow_mul]
  rw [e, hy, p, ← Nat.shiftLeft_eq, Nat.or_comm, ← Nat.shiftLeft_add_eq_or_of_lt (by rw [← p]; exact hx), Nat.add_comm]
theorem bl_i (a : Int64) : a.toInt32.toBitVec.toNat = bl a % 2 ^ 32 := by
  unfold bl
  simp only [Int64.toInt32, BitVec.signExtend_eq_setWidth_of_le _ (show 32 ≤ 64 from by decide)]
  show (BitVec.setWidth 32 a.toBitVec).toNat = _
  rw [BitVec.toNat_setWidth]
theorem bl_amt : ∀ q, q < 6 → ((((6 : Int32) * iI (q : Nat)).toInt64.toUInt64 &&& Int64.toUInt64 63).toBitVec % 64).toNat = 6 * q := by decide +kernel
theorem bl_get (x : Int64) {q : Nat} (hq : q < 6) : (((x.toUInt64 >>> (((6 : Int32) * iI (q : Nat)).toInt64.toUInt64 &&& Int64.toUInt64 63)).toInt64 &&& (63 : Int64))).toInt32 = iI ((bl x / 64 ^ q % 64 : Nat)) := by
  have p : (64 : Nat) ^ q = 2 ^ (6 * q) := by rw [Nat.pow_mul]
  have e : (x.toUInt64 >>> (((6 : Int32) * iI (q : Nat)).toInt64.toUInt64 &&& Int64.toUInt64 63)).toInt64.toBitVec = x.toBitVec >>> (6 * q) := by
    rw [← bl_amt q hq]
    exact UInt64.toBitVec_shiftRight _ _
  have e2 : bl ((x.toUInt64 >>> (((6 : Int32) * iI (q : Nat)).toInt64.toUInt64 &&& Int64.toUInt64 63)).toInt64 &&& (63 : Int64)) = bl x / 64 ^ q % 64 := by
    show ((x.toUInt64 >>> (((6 : Int32) * iI (q : Nat)).toInt64.toUInt64 &&& Int64.toUInt64 63)).toInt64 &&& (63 : Int64)).toBitVec.toNat = _
    rw [Int64.toBitVec_and, e, BitVec.toNat_and, show (63 : Int64).toBitVec.toNat = 2 ^ 6 - 1 from rfl, Nat.and_two_pow_sub_one_eq_mod, BitVec.toNat_ushiftRight, Nat.shiftRight_eq_div_pow, p]
    rfl
  have lt : bl x / 64 ^ q % 64 < 64 := Nat.mod_lt _ (by omega)
  apply Int32.toBitVec_inj.mp
  apply BitVec.eq_of_toNat_eq
  rw [bl_i, e2, ← nI_iI, pk_tn (by omega)]
  omega
/-- the names of a row, as they are packed -/
def pkW (A : Nat) (v : Nat → Nat) (q : Nat) : Nat := vu (if q < A then v q else 32)
theorem pkW_lt {l : List SR} (hl : l.length ≤ 32) {A : Nat} {v : Nat → Nat} (hv : VoK l v A) (q : Nat) : pkW A v q < 64 := by
  unfold pkW
  split
  · rename_i c; exact (vu_t hl (hv q c)).1
  · decide
theorem C_packed {d A : Nat} {v : Nat → Nat} {l : List SR} {P0 P1 P2 P3 P4 P5 P6 P7 P8 : PS} {R : List PS} {Q : Option AV → List PS → Prop} (hA : A ≤ 6) (hl : l.length ≤ 32) (hv : VoK l v A) (hP : gI P8 0 4 = iI (A : Nat)) (hS : StrC v A P8) (h : ∀ x, bl x = pkN (pkW A v) 6 → Q (some (vL x)) (P0 :: P1 :: P2 :: P3 :: P4 :: P5 :: P6 :: P7 :: P8 :: R)) : Tri 31 d [vR 8 0 0] (P0 :: P1 :: P2 :: P3 :: P4 :: P5 :: P6 :: P7 :: P8 :: R) Q := by
  have lt := pkW_lt hl hv
  have key : ∀ (m q : Nat) (x : Int64), q + m = 6 → bl x = pkN (pkW A v) q → cX2_packed_4 (0, 0, 0, 0) d x (iI (q : Nat)) P0 P1 P2 P3 P4 P5 P6 P7 P8 R Q := by
    intro m
    induction m with
    | zero =>
      intro q x hq hx
      refine gX2_packed_4 ?_
      unfold fX2_packed_4
      rw [show (6 : Int32) = iI 6 from rfl, iI_le (by omega) (by omega) (by omega) (by omega)]
      exact ⟨fun _ => h x (by rw [hx, show q = 6 by omega]), fun c => absurd (by omega) c⟩
    | succ m ih =>
      intro q x hq hx
      have hlt : bl x < 64 ^ q := by rw [hx]; exact pkN_lt lt q
      have step : bl (x ||| ((iI (pkW A v q : Nat)).toInt64 <<< (((6 : Int32) * iI (q : Nat)).toInt64 &&& 63))) = pkN (pkW A v) (q + 1) := by
        rw [bl_or hlt (bl_shl q (by omega) _ (lt q)), hx]; rfl
      refine gX2_packed_4 ?_
      unfold fX2_packed_4
      have c6 : (6 : Int32) ≤ iI (q : Nat) ↔ (6 : Int) ≤ (q : Nat) := by rw [show (6 : Int32) = iI 6 from rfl]; exact iI_le (by omega) (by omega) (by omega) (by omega)
      rw [c6, hP, iI_le (by omega) (by omega) (by omega) (by omega), iI_cl (a := (q : Nat)) (by omega) (by omega), Int.toNat_natCast, show iI (q : Nat) + 1 = iI ((q + 1 : Nat)) from iI_add (q : Nat) 1]
      refine ⟨fun c => absurd c (by omega), fun _ => ⟨fun c => ih (q + 1) _ (by omega) ?_, fun c => ⟨vpk (by omega) (by omega), ih (q + 1) _ (by omega) ?_⟩⟩⟩
      · rw [← step]
        unfold pkW
        rw [if_neg (by omega)]
        rfl
      · rw [← step, hS q (by omega)]
        unfold pkW
        rw [if_pos (by omega)]
  refine enX2_packed ?_
  unfold fX2_packed_0
  exact key 6 0 0 (by omega) rfl
/-- the NAMINGS that a picture keeps -/
def FdC (j A : Nat) (F : List (Nat → Nat)) (P : PS) : Prop := gI P j 11 = iI (F.length : Nat) ∧ F.length ≤ 200 ∧ ∀ e, e < F.length → bl (gB P j 9 e) = pkN (pkW A (F.getD e (fun _ => 32))) 6
theorem C_addNaming {d j A : Nat} {v : Nat → Nat} {F : List (Nat → Nat)} {x : Int64} {P0 P1 P2 P3 : PS} {R : List PS} {Q : Option AV → List PS → Prop} (hD : FdC j A F P3) (hF : F.length < 200) (hx : bl x = pkN (pkW A v) 6) (h : ∀ P3', FdC j A (F ++ [v]) P3' → FrO j [11] [] [] [9] P3 P3' → Q none (P0 :: P1 :: P2 :: P3' :: R)) : Tri 44 d [vR 3 j 0, vL x] (P0 :: P1 :: P2 :: P3 :: R) Q := by
  refine enX3_addNaming ?_
  unfold fX3_addNaming_0
  rw [hD.1, show (200 : Int32) = iI 200 from rfl, iI_le (by omega) (by omega) (by omega) (by omega), iI_cl (a := (F.length : Nat)) (by omega) (by omega), Int.toNat_natCast, show iI (F.length : Nat) + 1 = iI ((F.length + 1 : Nat)) from iI_add (F.length : Nat) 1]
  refine ⟨fun c => absurd c (by omega), fun _ => ⟨vpk (by omega) (by omega), h _ ⟨?_, ?_, fun e he => ?_⟩ ((FrO.rf.sB (by simp)).sI (by simp))⟩⟩
  · rw [List.length_append]; simp only [gI_sI, gI_sL, gI_sA, gI_sB, gI_sO, gI_sR, gI_sW, gL_sI, gL_sL, gL_sA, gL_sB, gL_sO, gL_sR, gL_sW, gA_sI, gA_sL, gA_sA, gA_sB, gA_sO, gA_sR, gB_sI, gB_sL, gB_sA, gB_sB, gB_sO, gB_sR, gB_sW, gO_sI, gO_sL, gO_sA, gO_sB, gO_sO, gO_sR, gO_sW, gR_sI, gR_sL, gR_sA, gR_sB, gR_sO, gR_sR, gR_sW, gN_sI, gN_sL, gN_sA, gN_sB, gN_sO, gN_sR, gN_sW, if_true, if_false, Nat.reduceEqDiff, reduceIte]; rfl
  · rw [List.length_append]; show F.length + 1 ≤ 200; omega
  · rw [List.length_append] at he
    have he' : e < F.length + 1 := he
    rw [gB_sI, gB_sB, if_pos rfl, if_pos rfl]
    by_cases c : e = F.length
    · rw [if_pos c, c, hx, List.getD_eq_getElem?_getD, List.getElem?_append_right (Nat.le_refl _), Nat.sub_self]; rfl
    · rw [if_neg c, hD.2.2 e (by omega), List.getD_eq_getElem?_getD, List.getD_eq_getElem?_getD, List.getElem?_append_left (by omega)]
theorem C_hasNaming {d j A : Nat} {i : Int} {F : List (Nat → Nat)} {x : Int32} {P0 P1 P2 P3 : PS} {R : List PS} {Q : Option AV → List PS → Prop} (hx : x = iI i) (hi : -2147483648 ≤ i ∧ i < 2147483648) (hD : FdC j A F P3) (h : Q (some (vI (oI (decide (0 ≤ i ∧ i < F.length))))) (P0 :: P1 :: P2 :: P3 :: R)) : Tri 43 d [vR 3 j 0, vI x] (P0 :: P1 :: P2 :: P3 :: R) Q := by
  subst hx
  have hl := hD.2.1
  refine enX3_hasNaming ?_
  unfold fX3_hasNaming_0
  rw [hD.1, show (0 : Int32) = iI 0 from rfl, iI_lt (by omega) (by omega) (by omega) (by omega), iI_le (by omega) (by omega) (by omega) (by omega), show (200 : Int32) = iI 200 from rfl, iI_le (by omega) (by omega) (by omega) (by omega)]
  refine ⟨fun c => ⟨Or.inl rfl, ?_⟩, fun c => ⟨fun c1 => ⟨Or.inl rfl, ?_⟩, fun c1 => ⟨fun c2 => absurd c2 (by omega), fun _ => ⟨Or.inr rfl, ?_⟩⟩⟩⟩
  · rw [decide_eq_false (by omega)] at h; exact h
  · rw [decide_eq_false (by omega)] at h; exact h
  · rw [decide_eq_true (by omega)] at h; exact h
theorem C_starOf {d j A : Nat} {i q : Int} {F : List (Nat → Nat)} {l : List SR} {x y : Int32} {P0 P1 P2 P3 : PS} {R : List PS} {Q : Option AV → List PS → Prop} (hx : x = iI i) (hy : y = iI q) (hi : -2147483648 ≤ i ∧ i < 2147483648) (hq : -2147483648 ≤ q ∧ q < 2147483648) (hl : l.length ≤ 32) (hv : ∀ v ∈ F, VoK l v A) (hD : FdC j A F P3) (h : Q (some (vI (iI (if (0 ≤ i ∧ i < F.length) ∧ (0 ≤ q ∧ q < 6) ∧ (if q.toNat < A then (F.getD i.toNat (fun _ => 32)) q.toNat else 32) ≠ 32 then ((if q.toNat < A then (F.getD i.toNat (fun _ => 32)) q.toNat else 32 : Nat) : Int) else -1)))) (P0 :: P1 :: P2 :: P3 :: R)) : Tri 45 (d + 1) [vR 3 j 0, vI x, vI y] (P0 :: P1 :: P2 :: P3 :: R) Q := by
  subst hx hy
  have hle := hD.2.1
  refine enX3_starOf ?_
  unfold fX3_starOf_0
  refine C_hasNaming rfl hi hD ?_
  dsimp only [hx4, rI]
  rw [oI_dec]
  refine ⟨fun c => ?_, fun c => ?_⟩
  · rw [if_neg (fun g => c g.1)] at h; exact h
  · have c' := Decidable.not_not.mp c
    have q0 : iI q < (0 : Int32) ↔ q < 0 := by rw [show (0 : Int32) = iI 0 from rfl]; exact iI_lt (by omega) (by omega) (by omega) (by omega)
    have q6 : iI q < (6 : Int32) ↔ q < 6 := by rw [show (6 : Int32) = iI 6 from rfl]; exact iI_lt (by omega) (by omega) (by omega) (by omega)
    rw [q0, q6]
    refine ⟨fun c1 => ?_, fun c1 => ⟨fun c2 => ?_, fun c2 => ?_⟩⟩
    · rw [if_neg (fun g => by omega)] at h; exact h
    · obtain ⟨n, rfl⟩ : ∃ n : Nat, i = (n : Nat) := ⟨i.toNat, by omega⟩
      obtain ⟨r, rfl⟩ : ∃ r : Nat, q = (r : Nat) := ⟨q.toNat, by omega⟩
      rw [Int.toNat_natCast, Int.toNat_natCast] at h
      have hv' : VoK l (F.getD n (fun _ => 32)) A := by
        refine hv _ ?_
        rw [List.getD_eq_getElem?_getD, List.getElem?_eq_getElem (by omega)]
        exact List.getElem_mem (by omega)
      have dg : bl (gB P3 j 9 n) / 64 ^ r % 64 = pkW A (F.getD n (fun _ => 32)) r := by
        rw [hD.2.2 n (by omega)]; exact pkN_dig (pkW_lt hl hv') 6 r (by omega)
      rw [iI_cl (a := (n : Nat)) (by omega) (by omega), Int.toNat_natCast, bl_get _ (by omega), dg]
      have wl := pkW_lt hl hv' r
      have e63 : iI (pkW A (F.getD n (fun _ => 32)) r : Nat) = (63 : Int32) ↔ pkW A (F.getD n (fun _ => 32)) r = 63 := by rw [show (63 : Int32) = iI 63 from rfl, iI_eq (by omega) (by omega) (by omega) (by omega)]; omega
      rw [e63]
      have t32 : (if r < A then (F.getD n (fun _ => 32)) r else 32) = 32 ∨ (if r < A then (F.getD n (fun _ => 32)) r else 32) < l.length := by
        split
        · rename_i c; exact hv' r c
        · exact Or.inl rfl
      have tt := vu_t hl t32
      have ew : pkW A (F.getD n (fun _ => 32)) r = vu (if r < A then (F.getD n (fun _ => 32)) r else 32) := rfl
      generalize (if r < A then (F.getD n (fun _ => 32)) r else 32) = s at *
      refine ⟨vpk (by omega) (by omega), fun c3 => ?_, fun c3 => ?_⟩
      · have s32 : s ≠ 32 := fun g => c3 (by rw [ew]; exact tt.2.2.2.2 g)
        rw [if_pos ⟨c', by omega, s32⟩] at h
        rw [ew, tt.2.2.2.1 s32]; exact h
      · have s32 : s = 32 := by
          rw [ew] at c3
          by_cases g : s = 32
          · exact g
          · have := tt.2.2.2.1 g; omega
        rw [if_neg (fun g => g.2.2 s32)] at h; exact h
    · rw [if_neg (fun g => by omega)] at h; exact h
