/-! ===== HELD, the class ===== -/
theorem C_lightOf {d j u : Nat} {l : List SR} {x : Int32} {P0 P1 P2 : PS} {R : List PS} {Q : Option AV → List PS → Prop} (hx : x = iI (u : Nat)) (hu : u < l.length) (hS : SsC j l P2) (h : Q (some (vI (iI (lig l u)))) (P0 :: P1 :: P2 :: R)) : Tri 4 (d + 1) [vR 2 j 0, vI x] (P0 :: P1 :: P2 :: R) Q := by
  subst hx
  have hl := hS.2.1
  refine enX0_lightOf ?_
  unfold fX0_lightOf_0
  refine C_has rfl (by omega) hS ?_
  dsimp only [hx3, rI]
  rw [oI_dec]
  refine ⟨fun c => absurd (by omega) c, fun _ => ?_⟩
  simp (disch := omega) only [iI_in, iI_cl, Int.toNat_natCast]
  rw [(hS.2.2.2 u hu).2.2.2]
  exact ⟨by omega, h⟩
theorem C_pal {d j u v : Nat} {l : List SR} {f : Nat → Int} {x y w : Int32} {P0 P1 P2 : PS} {R : List PS} {Q : Option AV → List PS → Prop} (hx : x = iI (u : Nat)) (hy : y = iI (v : Nat)) (hw : w = iI (2 * f 2)) (hF : FOK f) (hu : u < l.length) (hv : v < l.length) (hS : SsC j l P2) (h : Q (some (vI (oI (pal l f u v)))) (P0 :: P1 :: P2 :: R)) : Tri 9 (d + 1) [vR 2 j 0, vI x, vI y, vI w] (P0 :: P1 :: P2 :: R) Q := by
  subst hx hy hw
  have hl := hS.2.1
  have h2 := hF.2.2.1
  have s1 := hS.2.2.2 u hu
  have s2 := hS.2.2.2 v hv
  have hd := dsq_bd hS.2.2.1 hu hv
  have q4 : 4 * f 2 * f 2 ≤ 4 * 999 * 999 := Int.mul_le_mul (by omega) h2.2 (by omega) (by omega)
  have q0 : 0 ≤ 4 * f 2 * f 2 := Int.mul_nonneg (by omega) (by omega)
  refine enX0_arePairAlong ?_
  unfold fX0_arePairAlong_0
  refine C_has rfl (by omega) hS ?_
  dsimp only [hx3, rI]
  rw [oI_dec]
  refine ⟨fun c => absurd (by omega) c, fun _ => C_has rfl (by omega) hS ?_⟩
  dsimp only [hx3, rI]
  rw [oI_dec]
  refine ⟨fun c => absurd (by omega) c, fun _ => ?_⟩
  simp (disch := omega) only [iI_in, iI_cl, Int.toNat_natCast]
  rw [s1.2.1, s2.2.1, iI_sub]
  refine ⟨by omega, by omega, C_square rfl ?_⟩
  dsimp only [hx3, rI]
  rw [s1.2.2.1, s2.2.2.1, iI_sub]
  refine ⟨by omega, by omega, C_square rfl ?_⟩
  dsimp only [hx3, rI]
  refine C_square rfl ?_
  dsimp only [hx3, rI]
  have e4 : 2 * f 2 * (2 * f 2) = 4 * f 2 * f 2 := by
    rw [show 2 * f 2 * (2 * f 2) = 2 * (f 2 * (2 * f 2)) by rw [Int.mul_assoc], ← Int.mul_assoc (f 2) 2 (f 2), Int.mul_comm (f 2) 2, ← Int.mul_assoc, ← Int.mul_assoc]
    rfl
  rw [iI_add, e4]
  unfold dsq at hd
  simp (disch := omega) only [iI_lt]
  refine ⟨fun c => ⟨Or.inl trivial, ?_⟩, fun c => ⟨Or.inr trivial, ?_⟩⟩
  · rw [show pal l f u v = false from decide_eq_false (by unfold dsq; omega)] at h; exact h
  · rw [show pal l f u v = true from decide_eq_true (by unfold dsq; omega)] at h; exact h
theorem C_o18 {d j s : Nat} {l : List SR} {PS0 : PS} {P0 P1 P2 P3 P4 : PS} {R : List PS} {Q : Option AV → List PS → Prop} (hs : s < l.length) (hS : SsC j l P2) (h : ∀ P, Fr [] [] [2] [] PS0 P → (∀ i, i ≤ s → gA P 0 2 i = iI (ord l (s + 1) i : Nat)) → cX8_orderByLight_2 (0, 0, 0, 0) (d + 1) j (iI ((s + 1 : Nat))) P0 P1 P2 P3 P4 P R Q) : ∀ (k : Nat) (o : Nat → Nat) (P : PS), k ≤ s → Fr [] [] [2] [] PS0 P → shI l s k o = ord l (s + 1) → (∀ i, i < k → o i < l.length) → (∀ i, i ≤ s → i ≠ k → gA P 0 2 i = iI (o i : Nat)) → cX8_orderByLight_18 (0, 0, 0, 0) (d + 1) j (iI (s : Nat)) (iI (k : Nat)) P0 P1 P2 P3 P4 P R Q := by
  have hl := hS.2.1
  intro k
  induction k with
  | zero =>
    intro o P hk fP ho hlt hA
    refine gX8_orderByLight_18 ?_
    unfold fX8_orderByLight_18
    simp (disch := omega) only [iI_lit, iI_le, iI_in, iI_cl, iI_add, Int.toNat_natCast]
    refine ⟨fun _ => ⟨by omega, ?_⟩, fun c => absurd (by omega) c⟩
    refine h _ (fP.sA (by simp)) (fun i hi => ?_)
    rw [← ho, gA_sA, if_pos rfl, if_pos rfl]
    unfold shI upN
    by_cases c : i = 0
    · rw [if_pos c, if_pos c]
    · rw [if_neg c, if_neg c]; exact hA i hi c
  | succ k ih =>
    intro o P hk fP ho hlt hA
    have e1 := hA k (by omega) (by omega)
    have hok := hlt k (by omega)
    have b2 := (hS.2.2.1 _ (nthS_mem hok)).2.2.2
    have b3 := (hS.2.2.1 _ (nthS_mem hs)).2.2.2
    refine gX8_orderByLight_18 ?_
    unfold fX8_orderByLight_18
    rw [show (1 : Int32) = iI 1 from rfl, iI_sub, show ((k + 1 : Nat) : Int) - 1 = (k : Nat) by omega]
    simp (disch := omega) only [iI_lit, iI_le, iI_in, iI_cl, iI_add, iI_neg, Int.toNat_natCast]
    rw [e1]
    unfold shI at ho
    refine ⟨fun c => absurd c (by omega), fun _ => ⟨by omega, C_lightOf rfl hok hS ?_⟩⟩
    dsimp only [hx6, rI]
    refine C_lightOf rfl hs hS ?_
    dsimp only [hx6, rI]
    rw [e1, iI_le (by unfold lig; omega) (by unfold lig; omega) (by unfold lig; omega) (by unfold lig; omega)]
    refine ⟨fun c => ⟨by omega, ?_⟩, fun c => ⟨by omega, by omega, ?_⟩⟩
    · rw [if_neg (by omega)] at ho
      refine h _ (fP.sA (by simp)) (fun i hi => ?_)
      rw [← ho, gA_sA, if_pos rfl, if_pos rfl]
      unfold upN
      by_cases c : i = k + 1
      · rw [if_pos c, if_pos c]
      · rw [if_neg c, if_neg c]; exact hA i hi c
    · rw [if_pos (by omega)] at ho
      rw [show ((k + 1 : Nat) : Int) + -1 = (k : Nat) by omega]
      refine ih _ _ (by omega) (fP.sA (by simp)) ho (fun i hi => ?_) (fun i hi hne => ?_)
      · unfold upN; rw [if_neg (by omega)]; exact hlt i (by omega)
      · rw [gA_sA, if_pos rfl, if_pos rfl]
        unfold upN
        by_cases c : i = k + 1
        · rw [if_pos c, if_pos c]
        · rw [if_neg c, if_neg c]; exact hA i hi c
theorem C_orderByLight {d j : Nat} {l : List SR} {P0 P1 P2 P3 P4 P5 : PS} {R : List PS} {Q : Option AV → List PS → Prop} (hS : SsC j l P2) (h : ∀ P, Fr [] [] [2] [] P5 P → (∀ i, i < l.length → gA P 0 2 i = iI (ord l l.length i : Nat)) → Q none (P0 :: P1 :: P2 :: P3 :: P4 :: P :: R)) : Tri 94 (d + 2) [vR 5 0 0, vR 2 j 0] (P0 :: P1 :: P2 :: P3 :: P4 :: P5 :: R) Q := by
  have hl := hS.2.1
  refine enX8_orderByLight ?_
  unfold fX8_orderByLight_0
  have key : ∀ (m s : Nat) (P : PS), s + m = l.length → Fr [] [] [2] [] P5 P → (∀ i, i < s → gA P 0 2 i = iI (ord l s i : Nat)) → cX8_orderByLight_2 (0, 0, 0, 0) (d + 1) j (iI (s : Nat)) P0 P1 P2 P3 P4 P R Q := by
    intro m
    induction m with
    | zero =>
      intro s P hs fP hA
      have es : s = l.length := by omega
      subst es
      refine gX8_orderByLight_2 ?_
      unfold fX8_orderByLight_2
      rw [hS.1]
      simp (disch := omega) only [iI_le]
      exact ⟨fun _ => h P fP hA, fun c => absurd (by omega) c⟩
    | succ m ih =>
      intro s P hs fP hA
      refine gX8_orderByLight_2 ?_
      unfold fX8_orderByLight_2
      rw [hS.1]
      simp (disch := omega) only [iI_lit, iI_le]
      refine ⟨fun c => absurd c (by omega), fun _ => ⟨fun c => absurd c (by omega), fun _ => ?_⟩⟩
      refine C_o18 (by omega) hS (fun P' f' a' => ih (s + 1) P' (by omega) f' (fun i hi => a' i (by omega))) s (ord l s) P (by omega) fP rfl (fun i hi => ?_) (fun i hi hne => hA i (by omega))
      exact Nat.lt_trans (ord_in l s i hi) (by omega)
  exact key l.length 0 P5 (by omega) Fr.rf (fun i hi => absurd hi (Nat.not_lt_zero i))
theorem C_countBytes {d j : Nat} {l : List SR} {f : Nat → Int} {P0 P1 P2 P3 P4 P5 : PS} {R : List PS} {Q : Option AV → List PS → Prop} (hS : SsC j l P2) (hT : TdC j f P2) (hF : FOK f) (hA0 : ∀ i, i < l.length → gA P5 0 2 i = iI (ord l l.length i : Nat)) (h : ∀ P, Fr [] [] [3] [] P5 P → (∀ i, i ≤ l.length → gA P 0 3 i = iI (cum l f i : Nat)) → Q none (P0 :: P1 :: P2 :: P3 :: P4 :: P :: R)) : Tri 95 (d + 2) [vR 5 0 0, vR 2 j 0] (P0 :: P1 :: P2 :: P3 :: P4 :: P5 :: R) Q := by
  have hl := hS.2.1
  have h10 := hF.2.2.2.2.2.2.2.2.2.2
  refine enX8_countBytes ?_
  unfold fX8_countBytes_0
  have inner : ∀ (n : Nat) (P : PS), n < l.length → Fr [] [] [3] [] P5 P → (∀ i, i ≤ n → gA P 0 3 i = iI (cum l f i : Nat)) → (∀ P', Fr [] [] [3] [] P5 P' → (∀ i, i ≤ n + 1 → gA P' 0 3 i = iI (cum l f i : Nat)) → cX8_countBytes_9 (0, 0, 0, 0) (d + 1) j (iI ((n + 1 : Nat))) P0 P1 P2 P3 P4 P' R Q) → ∀ m k : Nat, k + m = n → cX8_countBytes_31 (0, 0, 0, 0) (d + 1) j (iI (n : Nat)) (iI (mor l f n k : Nat)) (iI (k : Nat)) P0 P1 P2 P3 P4 P R Q := by
    intro n P hn fP hA out m
    induction m with
    | zero =>
      intro k hk
      have ek : k = n := by omega
      subst ek
      refine gX8_countBytes_31 ?_
      unfold fX8_countBytes_31
      simp (disch := omega) only [iI_lit, iI_le, iI_add, iI_in, iI_cl, Int.toNat_natCast]
      rw [show (((k : Nat) : Int) + 1).toNat = k + 1 by omega, hA k (by omega), iI_add]
      refine ⟨fun _ => ⟨by omega, by omega, out _ (fP.sA (by simp)) (fun i hi => ?_)⟩, fun c => absurd (by omega) c⟩
      rw [gA_sA, if_pos rfl, if_pos rfl]
      by_cases c : i = k + 1
      · rw [if_pos c, c, cum_s]; rfl
      · rw [if_neg c]; exact hA i (by omega)
    | succ m ih =>
      intro k hk
      refine gX8_countBytes_31 ?_
      unfold fX8_countBytes_31
      have e1 : gA P 0 2 n = iI (ord l l.length n : Nat) := by rw [fP.2.2.2.1 _ _ (by simp)]; exact hA0 n hn
      have e2 : gA P 0 2 k = iI (ord l l.length k : Nat) := by rw [fP.2.2.2.1 _ _ (by simp)]; exact hA0 k (by omega)
      simp (disch := omega) only [iI_le, iI_in, iI_cl, Int.toNat_natCast]
      rw [e1, e2, show gI P2 j 8 = iI (f 2) from hT 2 (by omega), show (2 : Int32) = iI 2 from rfl, iI_mul]
      refine ⟨fun c => absurd c (by omega), fun _ => ⟨by omega, by omega, C_pal rfl rfl rfl hF (ord_in l l.length n hn) (ord_in l l.length k (by omega)) hS ?_⟩⟩
      dsimp only [hx6, rI]
      rw [oI_z, show gI P2 j 17 = iI (f 11) from hT 11 (by omega), show (1 : Int32) = iI 1 from rfl, iI_add, iI_add]
      have e : mor l f n (k + 1) = mor l f n k + (if pal l f (ord l l.length n) (ord l l.length k) = true then (f 11).toNat else 0) := by
        show (f 10).toNat + (f 11).toNat * (cnt (fun o => pal l f (ord l l.length n) (ord l l.length o)) k + (if pal l f (ord l l.length n) (ord l l.length k) = true then 1 else 0)) = _
        rw [Nat.mul_add]
        unfold mor
        split <;> omega
      have ih' := ih (k + 1) (by omega)
      rw [e] at ih'
      refine ⟨fun c => ?_, fun c => ?_⟩
      · rw [c] at ih'; exact ih'
      · rw [show pal l f (ord l l.length n) (ord l l.length k) = true by simpa using c] at ih'
        simp only [if_true] at ih'
        rw [show ((mor l f n k + (f 11).toNat : Nat) : Int) = (mor l f n k : Nat) + f 11 by omega] at ih'
        exact ih'
  have outer : ∀ (m n : Nat) (P : PS), n + m = l.length → Fr [] [] [3] [] P5 P → (∀ i, i ≤ n → gA P 0 3 i = iI (cum l f i : Nat)) → cX8_countBytes_9 (0, 0, 0, 0) (d + 1) j (iI (n : Nat)) P0 P1 P2 P3 P4 P R Q := by
    intro m
    induction m with
    | zero =>
      intro n P hn fP hA
      have en : n = l.length := by omega
      subst en
      refine gX8_countBytes_9 ?_
      unfold fX8_countBytes_9
      rw [hS.1]
      simp (disch := omega) only [iI_le]
      exact ⟨fun _ => h P fP hA, fun c => absurd (by omega) c⟩
    | succ m ih =>
      intro n P hn fP hA
      refine gX8_countBytes_9 ?_
      unfold fX8_countBytes_9
      rw [hS.1, show gI P2 j 16 = iI (f 10) from hT 10 (by omega)]
      simp (disch := omega) only [iI_lit, iI_le]
      refine ⟨fun c => absurd c (by omega), fun _ => ⟨fun c => absurd c (by omega), fun _ => ?_⟩⟩
      have := inner n P (by omega) fP hA (fun P' f' a' => ih (n + 1) P' (by omega) f' a') n 0 (by omega)
      rw [show (mor l f n 0 : Nat) = (f 10).toNat from rfl, show (((f 10).toNat : Nat) : Int) = f 10 by omega] at this
      exact this
  refine ⟨vpk (k := 0) (by omega) (by omega), outer l.length 0 _ (by omega) (Fr.rf.sA (by simp)) (fun i hi => ?_)⟩
  rw [show i = 0 by omega]; rfl
def HeC (l : List SR) (f : Nat → Int) (P : PS) : Prop := gI P 0 12 ≠ 0 → ∀ i, i ≤ l.length → gA P 0 3 i = iI (cum l f i : Nat)
theorem C_hold {d j B : Nat} {l : List SR} {f : Nat → Int} {P0 P1 P2 P3 P4 P5 : PS} {R : List PS} {Q : Option AV → List PS → Prop} (hBb : B ≤ 99999) (hS : SsC j l P2) (hT : TdC j f P2) (hF : FOK f) (hH : HeC l f P5) (h : ∀ P', HeC l f P' → Fr [12] [] [2, 3] [] P5 P' → Q (some (vI (iI (hld l f B l.length : Nat)))) (P0 :: P1 :: P2 :: P3 :: P4 :: P' :: R)) : Tri 93 (d + 3) [vR 5 0 0, vR 2 j 0, vI (iI (B : Nat))] (P0 :: P1 :: P2 :: P3 :: P4 :: P5 :: R) Q := by
  have hl := hS.2.1
  refine enX8_hold ?_
  unfold fX8_hold_0
  have key : ∀ P, HeC l f P → Fr [12] [] [2, 3] [] P5 P → (∀ i, i ≤ l.length → gA P 0 3 i = iI (cum l f i : Nat)) → ∀ m n : Nat, n + m = l.length → cX8_hold_27 (0, 0, 0, 0) (d + 2) j (iI (B : Nat)) (iI (hld l f B n : Nat)) (iI ((n + 1 : Nat))) P0 P1 P2 P3 P4 P R Q := by
    intro P hP fP hA m
    induction m with
    | zero =>
      intro n hn
      have en : n = l.length := by omega
      subst en
      refine gX8_hold_27 ?_
      unfold fX8_hold_27
      rw [hS.1]
      simp (disch := omega) only [iI_lt]
      exact ⟨fun _ => h P hP fP, fun c => absurd (by omega) c⟩
    | succ m ih =>
      intro n hn
      have hc := cum_bd (l := l) hF (n + 1) (by omega)
      refine gX8_hold_27 ?_
      unfold fX8_hold_27
      rw [hS.1]
      simp (disch := omega) only [show (32 : Int32) = iI 32 from rfl, show (1 : Int32) = iI 1 from rfl, iI_lt, iI_in, iI_cl, iI_add, Int.toNat_natCast]
      rw [hA (n + 1) (by omega)]
      simp (disch := omega) only [iI_lt]
      have ih' := ih (n + 1) (by omega)
      unfold hld at ih'
      refine ⟨fun c => absurd c (by omega), fun _ => ⟨fun c => absurd c (by omega), fun _ => ⟨by omega, fun c => ?_, fun c => ?_⟩⟩⟩
      · rw [if_neg (by omega)] at ih'; exact ih'
      · rw [if_pos (by omega)] at ih'; exact ih'
  refine ⟨fun c => key P5 hH Fr.rf (hH c) l.length 0 (by omega), fun c => ⟨Or.inr rfl, C_orderByLight hS (fun A fA aA => ?_)⟩⟩
  dsimp only [hx6, rV]
  refine C_countBytes hS hT hF aA (fun A' fA' aA' => ?_)
  dsimp only [hx6, rV]
  have F1 : Fr [12] [] [2, 3] [] P5 A' := ((Fr.rf.sI (by simp)).trs (fA.mono (by simp) (by simp) (by simp) (by simp))).trs (fA'.mono (by simp) (by simp) (by simp) (by simp))
  exact key A' (fun _ => aA') F1 aA' l.length 0 (by omega)
theorem C_held {d k : Nat} {a : Int} {l : List SR} {f : Nat → Int} {P0 P1 P2 P3 P4 P5 P6 P7 P8 P9 P10 P11 P12 : PS} {R : List PS} {Q : Option AV → List PS → Prop} (ha : -2147483648 ≤ a ∧ a < 2147483648) (hk : gO P12 0 11 = some k) (hS : SsC k l P2) (hT : TdC k f P2) (hF : FOK f) (hH : HeC l f P5) (h : ∀ P', HeC l f P' → Fr [12] [] [2, 3] [] P5 P' → Q (some (vI (iI (heldS l f a)))) (P0 :: P1 :: P2 :: P3 :: P4 :: P' :: P6 :: P7 :: P8 :: P9 :: P10 :: P11 :: P12 :: R)) : Tri 151 (d + 4) [vR 12 0 0, vI (iI a)] (P0 :: P1 :: P2 :: P3 :: P4 :: P5 :: P6 :: P7 :: P8 :: P9 :: P10 :: P11 :: P12 :: R) Q := by
  refine enX11_held ?_
  unfold fX11_held_0
  unfold heldS at h
  rw [hk]
  simp only [oM]
  simp (disch := omega) only [iI_lit, iI_lt, iI_le]
  refine ⟨fun c => ?_, fun c => ⟨fun c1 => ?_, fun c1 => ?_⟩⟩
  · have := h P5 hH Fr.rf; rw [if_neg (by omega)] at this; exact this
  · obtain ⟨B, rfl⟩ : ∃ B : Nat, a = (B : Nat) := ⟨a.toNat, by omega⟩
    rw [if_pos (by omega), Int.toNat_natCast] at h
    refine C_hold (by omega) hS hT hF hH (fun P' h1 h2 => ?_)
    dsimp only [hx13, rI]
    exact h P' h1 h2
  · have := h P5 hH Fr.rf; rw [if_neg (by omega)] at this; exact this
