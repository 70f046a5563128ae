/-- the BOOK that is told -/
def BkM (a : BA) (P : PS) : Prop := (gI P 0 22 = iI a.1.length ∧ a.1.length ≤ 32 ∧ (∀ s ∈ a.1, StOK s) ∧ ∀ i, i < a.1.length → gA P 0 16 i = iI (nthS a.1 i).2.1 ∧ gA P 0 17 i = iI (nthS a.1 i).2.2.1 ∧ gA P 0 18 i = iI (nthS a.1 i).2.2.2) ∧ ∀ k, k < 12 → gA P 0 12 k = iI (a.2.1 k)
abbrev bsI : List Nat := [4, 6, 7, 8, 2, 3, 21, 1, 5, 10, 22, 28, 83, 84]
abbrev bsA : List Nat := [13, 14, 15, 11, 19, 12, 16, 17, 18, 27, 87]
theorem M_b280 {d : Nat} {P0 : PS} {R : List PS} {Q : Option AV → List PS → Prop} {a : BA} (hst : ∀ P, BkM a P → (∀ i, i < 3 → gA P 0 87 i = 0) → (∀ i, i < 256 → gA P 0 27 i = 0) → Fr bsI [9] bsA [20] P0 P → gI P 0 28 = 0 ∧ gI P 0 83 = 0 ∧ gI P 0 84 = 0 ∧ ((gI P 0 2 = iI 0 ∧ gI P 0 3 = iI (-1)) ∧ gI P 0 1 = 0) → Q (some (vI (iI a.1.length))) (P :: R)) :
    ∀ (m k : Nat) (P : PS), k + m = 3 → BkM a P → (∀ i, i < k → gA P 0 87 i = 0) → (∀ i, i < 256 → gA P 0 27 i = 0) → Fr bsI [9] bsA [20] P0 P → gI P 0 28 = 0 ∧ gI P 0 83 = 0 ∧ gI P 0 84 = 0 ∧ ((gI P 0 2 = iI 0 ∧ gI P 0 3 = iI (-1)) ∧ gI P 0 1 = 0) → cX12_book_280 (0, 0, 0, 0) d (iI k) P R Q := by
  intro m
  induction m with
  | zero =>
    intro k P hk hb hx hfr hf hz
    refine gX12_book_280 ?_
    unfold fX12_book_280
    rw [show (3 : Int32) = iI 3 from rfl, iI_le (by omega) (by omega) (by omega) (by omega), hb.1.1]
    exact ⟨fun _ => hst P hb (fun i hi => hx i (by omega)) hfr hf hz, fun c => absurd (show (3 : Int) ≤ k by omega) c⟩
  | succ m ih =>
    intro k P hk hb hx hfr hf hz
    refine gX12_book_280 ?_
    unfold fX12_book_280
    rw [show (3 : Int32) = iI 3 from rfl, iI_le (by omega) (by omega) (by omega) (by omega)]
    refine ⟨fun c => absurd c (show ¬ (3 : Int) ≤ k by omega), fun _ => ⟨by rw [iI_in (by omega) (by omega)]; omega, Or.inl rfl, ?_⟩⟩
    rw [iI_cl (by omega) (by omega), show ((k : Int)).toNat = k by omega, show (1 : Int32) = iI 1 from rfl, iI_add]
    refine ih (k + 1) _ (by omega) hb (fun i hi => ?_) hfr (hf.sA (by simp [bsA])) hz
    simp only [gI_sI, gI_sL, gI_sA, gI_sB, gI_sO, gI_sR, gI_sW, gL_sI, gL_sL, gL_sA, gL_sB, gL_sO, gL_sR, gL_sW, gA_sI, gA_sL, gA_sA, gA_sB, gA_sO, gA_sR, gB_sI, gB_sL, gB_sA, gB_sB, gB_sO, gB_sR, gB_sW, gO_sI, gO_sL, gO_sA, gO_sB, gO_sO, gO_sR, gO_sW, gR_sI, gR_sL, gR_sA, gR_sB, gR_sO, gR_sR, gR_sW, gN_sI, gN_sL, gN_sA, gN_sB, gN_sO, gN_sR, gN_sW, if_true, if_false, Nat.reduceEqDiff, reduceIte]
    by_cases e : i = k
    · rw [if_pos e]
    · rw [if_neg e]; exact hx i (by omega)
theorem M_b258 {d : Nat} {P0 : PS} {R : List PS} {Q : Option AV → List PS → Prop} {a : BA} (hst : ∀ P, BkM a P → (∀ i, i < 3 → gA P 0 87 i = 0) → (∀ i, i < 256 → gA P 0 27 i = 0) → Fr bsI [9] bsA [20] P0 P → gI P 0 28 = 0 ∧ gI P 0 83 = 0 ∧ gI P 0 84 = 0 ∧ ((gI P 0 2 = iI 0 ∧ gI P 0 3 = iI (-1)) ∧ gI P 0 1 = 0) → Q (some (vI (iI a.1.length))) (P :: R)) :
    ∀ (m k : Nat) (P : PS), k + m = 256 → BkM a P → (∀ i, i < k → gA P 0 27 i = 0) → Fr bsI [9] bsA [20] P0 P → gI P 0 28 = 0 ∧ gI P 0 83 = 0 ∧ gI P 0 84 = 0 ∧ ((gI P 0 2 = iI 0 ∧ gI P 0 3 = iI (-1)) ∧ gI P 0 1 = 0) → cX12_book_258 (0, 0, 0, 0) d (iI k) P R Q := by
  intro m
  induction m with
  | zero =>
    intro k P hk hb hx hf hz
    refine gX12_book_258 ?_
    unfold fX12_book_258
    rw [show (256 : Int32) = iI 256 from rfl, iI_le (by omega) (by omega) (by omega) (by omega)]
    exact ⟨fun _ => M_b280 hst 3 0 P (by omega) hb (fun i hi => by omega) (fun i hi => hx i (by omega)) hf hz, fun c => absurd (show (256 : Int) ≤ k by omega) c⟩
  | succ m ih =>
    intro k P hk hb hx hf hz
    refine gX12_book_258 ?_
    unfold fX12_book_258
    rw [show (256 : Int32) = iI 256 from rfl, iI_le (by omega) (by omega) (by omega) (by omega)]
    refine ⟨fun c => absurd c (show ¬ (256 : Int) ≤ k by omega), fun _ => ⟨by rw [iI_in (by omega) (by omega)]; omega, Or.inl rfl, ?_⟩⟩
    rw [iI_cl (by omega) (by omega), show ((k : Int)).toNat = k by omega, show (1 : Int32) = iI 1 from rfl, iI_add]
    refine ih (k + 1) _ (by omega) hb (fun i hi => ?_) (hf.sA (by simp [bsA])) hz
    simp only [gI_sI, gI_sL, gI_sA, gI_sB, gI_sO, gI_sR, gI_sW, gL_sI, gL_sL, gL_sA, gL_sB, gL_sO, gL_sR, gL_sW, gA_sI, gA_sL, gA_sA, gA_sB, gA_sO, gA_sR, gB_sI, gB_sL, gB_sA, gB_sB, gB_sO, gB_sR, gB_sW, gO_sI, gO_sL, gO_sA, gO_sB, gO_sO, gO_sR, gO_sW, gR_sI, gR_sL, gR_sA, gR_sB, gR_sO, gR_sR, gR_sW, gN_sI, gN_sL, gN_sA, gN_sB, gN_sO, gN_sR, gN_sW, if_true, if_false, Nat.reduceEqDiff, reduceIte]
    by_cases e : i = k
    · rw [if_pos e]
    · rw [if_neg e]; exact hx i (by omega)
theorem M_b183 {d : Nat} {P0 : PS} {R : List PS} {Q : Option AV → List PS → Prop} {a : BA} (hst : ∀ P, BkM a P → (∀ i, i < 3 → gA P 0 87 i = 0) → (∀ i, i < 256 → gA P 0 27 i = 0) → Fr bsI [9] bsA [20] P0 P → gI P 0 28 = 0 ∧ gI P 0 83 = 0 ∧ gI P 0 84 = 0 ∧ ((gI P 0 2 = iI 0 ∧ gI P 0 3 = iI (-1)) ∧ gI P 0 1 = 0) → Q (some (vI (iI a.1.length))) (P :: R)) :
    ∀ (m k : Nat) (P : PS), k + m = a.1.length → SsM a.1 P → (∀ j, j < 12 → gA P 0 12 j = iI (a.2.1 j)) → (∀ i, i < k → gA P 0 16 i = iI (nthS a.1 i).2.1 ∧ gA P 0 17 i = iI (nthS a.1 i).2.2.1 ∧ gA P 0 18 i = iI (nthS a.1 i).2.2.2) → Fr bsI [9] bsA [20] P0 P → ((gI P 0 2 = iI 0 ∧ gI P 0 3 = iI (-1)) ∧ gI P 0 1 = 0) → cX12_book_183 (0, 0, 0, 0) d (iI k) P R Q := by
  intro m
  induction m with
  | zero =>
    intro k P hk hs ht hx hf hz
    refine gX12_book_183 ?_
    unfold fX12_book_183
    have h32 := hs.2.1
    rw [hs.1, iI_le (by omega) (by omega) (by omega) (by omega)]
    refine ⟨fun _ => M_b258 hst 256 0 _ (by omega) ⟨⟨rfl, h32, hs.2.2.1, fun i hi => hx i (by omega)⟩, ht⟩ (fun i hi => by omega) ((((hf.sI (by simp [bsI])).sI (by simp [bsI])).sI (by simp [bsI])).sI (by simp [bsI])) ⟨rfl, rfl, rfl, hz⟩, fun c => absurd (show (a.1.length : Int) ≤ k by omega) c⟩
  | succ m ih =>
    intro k P hk hs ht hx hf hz
    refine gX12_book_183 ?_
    unfold fX12_book_183
    have h32 := hs.2.1
    have hkl : k < a.1.length := by omega
    have hin : vp_in (iI (k : Int)) 32 := by rw [iI_in (by omega) (by omega)]; omega
    rw [hs.1, iI_le (by omega) (by omega) (by omega) (by omega)]
    refine ⟨fun c => absurd c (show ¬ (a.1.length : Int) ≤ k by omega), fun _ => ⟨hin, hin, hin, hin, hin, hin, ?_⟩⟩
    obtain ⟨-, e2, e3, e4⟩ := hs.2.2.2 k hkl
    rw [iI_cl (by omega) (by omega), show ((k : Int)).toNat = k by omega, show (1 : Int32) = iI 1 from rfl, iI_add, e2, e3, e4]
    refine ih (k + 1) _ (by omega) hs ht (fun i hi => ?_) (((hf.sA (by simp [bsA])).sA (by simp [bsA])).sA (by simp [bsA])) hz
    simp only [gI_sI, gI_sL, gI_sA, gI_sB, gI_sO, gI_sR, gI_sW, gL_sI, gL_sL, gL_sA, gL_sB, gL_sO, gL_sR, gL_sW, gA_sI, gA_sL, gA_sA, gA_sB, gA_sO, gA_sR, gB_sI, gB_sL, gB_sA, gB_sB, gB_sO, gB_sR, gB_sW, gO_sI, gO_sL, gO_sA, gO_sB, gO_sO, gO_sR, gO_sW, gR_sI, gR_sL, gR_sA, gR_sB, gR_sO, gR_sR, gR_sW, gN_sI, gN_sL, gN_sA, gN_sB, gN_sO, gN_sR, gN_sW, if_true, if_false, Nat.reduceEqDiff, reduceIte]
    by_cases e : i = k
    · subst e; simp only [if_true, and_self]
    · simp only [if_neg e]; exact hx i (by omega)
theorem M_b157 {d : Nat} {P0 : PS} {R : List PS} {Q : Option AV → List PS → Prop} {a : BA} (hst : ∀ P, BkM a P → (∀ i, i < 3 → gA P 0 87 i = 0) → (∀ i, i < 256 → gA P 0 27 i = 0) → Fr bsI [9] bsA [20] P0 P → gI P 0 28 = 0 ∧ gI P 0 83 = 0 ∧ gI P 0 84 = 0 ∧ ((gI P 0 2 = iI 0 ∧ gI P 0 3 = iI (-1)) ∧ gI P 0 1 = 0) → Q (some (vI (iI a.1.length))) (P :: R)) :
    ∀ (m k : Nat) (P : PS), k + m = 12 → SsM a.1 P → TdM a.2.1 P → (∀ j, j < k → gA P 0 12 j = iI (a.2.1 j)) → Fr bsI [9] bsA [20] P0 P → ((gI P 0 2 = iI 0 ∧ gI P 0 3 = iI (-1)) ∧ gI P 0 1 = 0) → cX12_book_157 (0, 0, 0, 0) d (iI k) P R Q := by
  intro m
  induction m with
  | zero =>
    intro k P hk hs ht hx hf hz
    refine gX12_book_157 ?_
    unfold fX12_book_157
    rw [show (12 : Int32) = iI 12 from rfl, iI_le (by omega) (by omega) (by omega) (by omega)]
    exact ⟨fun _ => M_b183 hst a.1.length 0 P (by omega) hs (fun j hj => hx j (by omega)) (fun i hi => by omega) hf hz, fun c => absurd (show (12 : Int) ≤ k by omega) c⟩
  | succ m ih =>
    intro k P hk hs ht hx hf hz
    refine gX12_book_157 ?_
    unfold fX12_book_157
    have hin : vp_in (iI (k : Int)) 12 := by rw [iI_in (by omega) (by omega)]; omega
    rw [show (12 : Int32) = iI 12 from rfl, iI_le (by omega) (by omega) (by omega) (by omega)]
    refine ⟨fun c => absurd c (show ¬ (12 : Int) ≤ k by omega), fun _ => ⟨hin, hin, ?_⟩⟩
    rw [iI_cl (by omega) (by omega), show ((k : Int)).toNat = k by omega, show (1 : Int32) = iI 1 from rfl, iI_add, ht k (by omega)]
    refine ih (k + 1) _ (by omega) hs ht (fun i hi => ?_) (hf.sA (by simp [bsA])) hz
    simp only [gI_sI, gI_sL, gI_sA, gI_sB, gI_sO, gI_sR, gI_sW, gL_sI, gL_sL, gL_sA, gL_sB, gL_sO, gL_sR, gL_sW, gA_sI, gA_sL, gA_sA, gA_sB, gA_sO, gA_sR, gB_sI, gB_sL, gB_sA, gB_sB, gB_sO, gB_sR, gB_sW, gO_sI, gO_sL, gO_sA, gO_sB, gO_sO, gO_sR, gO_sW, gR_sI, gR_sL, gR_sA, gR_sB, gR_sO, gR_sR, gR_sW, gN_sI, gN_sL, gN_sA, gN_sB, gN_sO, gN_sR, gN_sW, if_true, if_false, Nat.reduceEqDiff, reduceIte]
    by_cases e : i = k
    · subst e; simp only [if_true]
    · simp only [if_neg e]; exact hx i (by omega)
def TpM (b : Nat → Int) (n : Nat) (P : PS) : Prop := gI P 0 1 = iI n ∧ n ≤ 1500 ∧ ∀ i, i < n → gA P 0 0 i = iI (b i) ∧ 0 ≤ b i ∧ b i < 256
theorem M_b7 {d : Nat} {P0 : PS} {R : List PS} {Q : Option AV → List PS → Prop} (hst : ∀ P, (∀ k, k < 12 → gA P 0 11 k = iI (plain k) ∧ gA P 0 19 k = 0) → Fr bkI [9] bkA [20] P0 P → gI P 0 21 = 0 → gI P 0 1 = gI P0 0 1 → cX12_book_7 (0, 0, 0, 0) (d + 1) (iI 12) P R Q) :
    ∀ (m k : Nat) (P : PS), k + m = 12 → (∀ j, j < k → gA P 0 11 j = iI (plain j) ∧ gA P 0 19 j = 0) → Fr bkI [9] bkA [20] P0 P → gI P 0 21 = 0 → gI P 0 1 = gI P0 0 1 → cX12_book_7 (0, 0, 0, 0) (d + 1) (iI k) P R Q := by
  intro m
  induction m with
  | zero =>
    intro k P hk hx hf h0 ht
    rw [show (k : Int) = 12 by omega]
    exact hst P (fun j hj => hx j (by omega)) hf h0 ht
  | succ m ih =>
    intro k P hk hx hf h0 ht
    refine gX12_book_7 ?_
    unfold fX12_book_7
    have hin : vp_in (iI (k : Int)) 12 := by rw [iI_in (by omega) (by omega)]; omega
    rw [show (12 : Int32) = iI 12 from rfl, iI_le (by omega) (by omega) (by omega) (by omega)]
    refine ⟨fun c => absurd c (show ¬ (12 : Int) ≤ k by omega), fun _ => M_plainOf (by omega) ?_⟩
    dsimp only [hx1, rI]
    refine ⟨hin, hin, Or.inl rfl, ?_⟩
    rw [iI_cl (by omega) (by omega), show ((k : Int)).toNat = k by omega, show (1 : Int32) = iI 1 from rfl, iI_add]
    refine ih (k + 1) _ (by omega) (fun i hi => ?_) ((hf.sA (by simp [bkA])).sA (by simp [bkA])) h0 ht
    simp only [gI_sI, gI_sL, gI_sA, gI_sB, gI_sO, gI_sR, gI_sW, gL_sI, gL_sL, gL_sA, gL_sB, gL_sO, gL_sR, gL_sW, gA_sI, gA_sL, gA_sA, gA_sB, gA_sO, gA_sR, gB_sI, gB_sL, gB_sA, gB_sB, gB_sO, gB_sR, gB_sW, gO_sI, gO_sL, gO_sA, gO_sB, gO_sO, gO_sR, gO_sW, gR_sI, gR_sL, gR_sA, gR_sB, gR_sO, gR_sR, gR_sW, gN_sI, gN_sL, gN_sA, gN_sB, gN_sO, gN_sR, gN_sW, if_true, if_false, Nat.reduceEqDiff, reduceIte]
    by_cases e : i = k
    · subst e; simp only [if_true, and_self]
    · simp only [if_neg e]; exact hx i (by omega)
theorem M_book {d : Nat} {b : Nat → Int} {n : Nat} {P : PS} {R : List PS} {Q : Option AV → List PS → Prop} (ht : TpM b n P)
    (hy : ∀ a P', bookS b n (n + 1) BA0 0 = .ok a → BkM a P' → (∀ i, i < 3 → gA P' 0 87 i = 0) → (∀ i, i < 256 → gA P' 0 27 i = 0) → Fr bsI [9] bsA [20] P P' → gI P' 0 28 = 0 ∧ gI P' 0 83 = 0 ∧ gI P' 0 84 = 0 ∧ ((gI P' 0 2 = iI 0 ∧ gI P' 0 3 = iI (-1)) ∧ gI P' 0 1 = 0) → Q (some (vI (iI a.1.length))) (P' :: R))
    (hn : ∀ e P', bookS b n (n + 1) BA0 0 = .error e → Fr bkI [9] bkA [20] P P' → FaM e P' → gI P' 0 1 = 0 → Q (some (vI (-1))) (P' :: R)) : Tri 192 (d + 5) [vR 0 0 0] (P :: R) Q := by
  refine enX12_book ?_
  unfold fX12_book_0
  refine M_b7 (P0 := P) (d := d + 3) (fun P1 h1 f1 s1 t1 => ?_) 12 0 _ (by omega) (fun j hj => by omega) (Fr.rf.sI (by simp [bkI])) rfl rfl
  refine gX12_book_7 ?_
  unfold fX12_book_7
  refine ⟨fun _ => ⟨Or.inl rfl, enX12_start ?_⟩, fun c => absurd (by decide) c⟩
  unfold fX12_start_0
  dsimp only [hx1, rV]
  generalize hP2 : sI (sI (sI (sI (sI (sI P1 0 10 (0 : Int32)) 0 5 (gI (sI P1 0 10 (0 : Int32)) 0 1)) 0 1 (0 : Int32)) 0 4 (0 : Int32)) 0 2 (0 : Int32)) 0 3 (-1 : Int32) = P2
  have f2 : Fr bkI [9] bkA [20] P P2 := by
    rw [← hP2]
    exact (((((f1.sI (by simp [bkI])).sI (by simp [bkI])).sI (by simp [bkI])).sI (by simp [bkI])).sI (by simp [bkI])).sI (by simp [bkI])
  have x2 : TxM false b n P2 := by
    refine ⟨by rw [← hP2]; rfl, ?_, ht.2.1, fun i hi => ?_⟩
    · rw [← hP2]; show gI P1 0 1 = _; rw [t1]; exact ht.1
    · rw [f2.2.2.2.1 _ _ (by simp [bkA])]; exact ht.2.2 i hi
  have a2 : gI P2 0 4 = iI ((0 : Nat) : Int) := by rw [← hP2]; rfl
  have z2 : gI P2 0 2 = iI 0 := by rw [← hP2]; rfl
  have z2' : gI P2 0 3 = iI (-1) := by rw [← hP2]; rfl
  have c2 : AcM BA0 P2 := by
    refine ⟨⟨?_, Nat.zero_le 32, fun s (hs : s ∈ ([] : List SR)) => absurd hs List.not_mem_nil, fun i (hi : i < 0) => absurd hi (Nat.not_lt_zero i)⟩, fun j hj => ?_, fun j hj => ?_⟩
    · rw [← hP2]; exact s1
    · rw [← hP2]; exact (h1 j hj).1
    · rw [← hP2]; exact (h1 j hj).2
  refine M_token x2 a2 (Nat.zero_le n) (fun P3 f3 t3 => ?_)
  dsimp only [hx1, rV]
  have p3 : PrM false b n 0 P3 := ⟨x2.fr f3 (by simp [tkI]) (by simp [tkI]) (by simp), t3, by rw [f3.2.1 _ (by simp [tkI])]; exact z2, Nat.zero_le n, by rw [f3.2.1 _ (by simp [tkI])]; exact z2'⟩
  have f3' : Fr prI [9] [] [] P2 P3 := f3.mono (by simp [tkI, prI]) (by simp) (by simp) (by simp)
  have f3b : Fr bkI [9] bkA [20] P P3 := f2.trs (f3.mono (by simp [tkI, bkI]) (by simp) (by simp) (by simp))
  have tp3 : gI P3 0 1 = 0 := by rw [f3.2.1 _ (by simp [tkI])]; rw [← hP2]; rfl
  have jI : ∀ {P'}, Fr bkJ [9] bkA [20] P3 P' → Fr bkI [9] bkA [20] P P' := fun f => f3b.trs (f.mono (by simp [bkJ, bkI]) (fun _ q => q) (fun _ q => q) (fun _ q => q))
  have tp : ∀ {P'}, Fr bkJ [9] bkA [20] P3 P' → gI P' 0 1 = 0 := fun f => by rw [f.2.1 _ (by simp [bkJ])]; exact tp3
  refine M_b49 (P0 := P3) (d := d) (n + 1) BA0 0 P3 (by omega) p3 (c2.fr f3') Fr.rf (fun a P' e f z ac => ?_) (fun e P' e1 f fa => hn e P' e1 (jI f) fa (tp f))
  exact M_b157 (P0 := P) (fun P'' b1 b2 b3 b4 b5 => hy a P'' e b1 b2 b3 b4 b5) 12 0 P' (by omega) ac.1 ac.2.1 (fun j hj => by omega) ((jI f).mono (by simp [bkI, bsI]) (by simp) (by simp [bkA, bsA]) (by simp)) ⟨z, tp f⟩
