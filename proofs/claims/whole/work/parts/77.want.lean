/-! ===== LOOKS, the class: what is wanted ===== -/
abbrev WE : Type := Int32 × Int
def wn (W : Nat → WE) (i : Nat) : WE := W i
/-- T has of a set as many as are wanted -/
def met (T : Nat → Bool) (w : WE) : Prop := w.2 ≤ (cnt (fun s => bz w.1 s && T s) 32 : Nat)
theorem cnt_mono {p q : Nat → Bool} : ∀ n, (∀ i, i < n → p i = true → q i = true) → cnt p n ≤ cnt q n
  | 0, _ => Nat.le_refl _
  | n + 1, h => by
    have := cnt_mono n (fun i hi => h i (by omega))
    unfold cnt
    cases hp : p n with
    | false => simp; omega
    | true => rw [h n (by omega) hp]; simp; omega
theorem met_of {T : Nat → Bool} {a b : WE} (h : (a.1 &&& (b.1 ^^^ (-1))) = 0) (h2 : b.2 ≤ a.2) (m : met T a) : met T b := by
  unfold met at *
  have : cnt (fun s => bz a.1 s && T s) 32 ≤ cnt (fun s => bz b.1 s && T s) 32 := cnt_mono 32 (fun i hi q => by
    have e := (bz_eq0.mp h) i hi
    rw [bz_and, bz_not _ hi] at e
    simp only [Bool.and_eq_true] at q ⊢
    rw [q.1] at e
    exact ⟨by simpa using e, q.2⟩)
  omega
/-- the wants that the class keeps -/
def WtC (n : Nat) (W : Nat → WE) (P : PS) : Prop := gI P 0 7 = iI (n : Nat) ∧ n ≤ 100 ∧ ∀ i, i < n → gA P 0 0 i = (W i).1 ∧ gA P 0 1 i = iI (W i).2 ∧ 1 ≤ (W i).2 ∧ (W i).2 ≤ 6
theorem C_addWant {d n : Nat} {W : Nat → WE} {x : Int32} {v : Int} {P0 P1 P2 P3 P4 P5 : PS} {R : List PS} {Q : Option AV → List PS → Prop} (hW : WtC n W P5) (hn : n ≤ 99) (hv : 0 ≤ v ∧ v ≤ 6)
    (h : ∀ n' W' P', WtC n' W' P' → n' ≤ n + 1 → (∀ T, (∀ i, i < n' → met T (W' i)) ↔ ((∀ i, i < n → met T (W i)) ∧ met T (x, v))) → Fr [7] [] [0, 1] [] P5 P' → Q none (P0 :: P1 :: P2 :: P3 :: P4 :: P' :: R)) : Tri 89 d [vR 5 0 0, vI x, vI (iI v)] (P0 :: P1 :: P2 :: P3 :: P4 :: P5 :: R) Q := by
  refine enX8_addWant ?_
  unfold fX8_addWant_0
  -- brought: the old want that the new one brings along
  have fin : ∀ (k : Nat) (A : PS), k ≤ n → Fr [7] [] [0, 1] [] P5 A → (∀ p, p < k → ∃ q, q < n ∧ gA A 0 0 p = (W q).1 ∧ gA A 0 1 p = iI (W q).2) → (∀ q, q < n → (∃ p, p < k ∧ gA A 0 0 p = (W q).1 ∧ gA A 0 1 p = iI (W q).2) ∨ ((x &&& ((W q).1 ^^^ (-1))) = 0 ∧ (W q).2 ≤ v)) → (x &&& 0 = 0) → ((iI v ≤ 0 → Q none (P0 :: P1 :: P2 :: P3 :: P4 :: (sI A 0 7 (iI (k : Nat))) :: R)) ∧ (¬ iI v ≤ 0 → ((100 : Int32) ≤ iI (k : Nat) → Q none (P0 :: P1 :: P2 :: P3 :: P4 :: (sI A 0 7 (iI (k : Nat))) :: R)) ∧ (¬ (100 : Int32) ≤ iI (k : Nat) → vp_in (iI (k : Nat)) 100 ∧ (vp_in (iI (k : Nat)) 100 ∧ (Q none (P0 :: P1 :: P2 :: P3 :: P4 :: (sI (sA (sA (sI A 0 7 (iI (k : Nat))) 0 0 ((iI (k : Nat)).toNatClampNeg) x) 0 1 ((iI (k : Nat)).toNatClampNeg) (iI v)) 0 7 (iI (k : Nat) + (1 : Int32))) :: R)))))) := by
    intro k A hk fA I2 I3 _
    have old : ∀ p, p < k → ∃ w : WE, (gA A 0 0 p = w.1 ∧ gA A 0 1 p = iI w.2 ∧ 1 ≤ w.2 ∧ w.2 ≤ 6) ∧ ∃ q, q < n ∧ w = W q := fun p hp => by
      obtain ⟨q, hq, e1, e2⟩ := I2 p hp
      exact ⟨W q, ⟨e1, e2, (hW.2.2 q hq).2.2⟩, q, hq, rfl⟩
    have W'ex : ∃ W' : Nat → WE, ∀ p, p < k → (gA A 0 0 p = (W' p).1 ∧ gA A 0 1 p = iI (W' p).2 ∧ 1 ≤ (W' p).2 ∧ (W' p).2 ≤ 6) ∧ ∃ q, q < n ∧ W' p = W q := by
      refine ⟨fun p => (gA A 0 0 p, (gA A 0 1 p).toInt), fun p hp => ?_⟩
      obtain ⟨w, ⟨e1, e2, e3, e4⟩, q, hq, e5⟩ := old p hp
      have e6 : (gA A 0 0 p, (gA A 0 1 p).toInt) = w := by
        rw [e1, e2, iI_t (by omega) (by omega)]
      have e7 : (fun p => (gA A 0 0 p, (gA A 0 1 p).toInt)) p = w := e6
      rw [e7]
      exact ⟨⟨e1, e2, e3, e4⟩, q, hq, e5⟩
    obtain ⟨W', hW'⟩ := W'ex
    have same : ∀ q p, q < n → p < k → gA A 0 0 p = (W q).1 → gA A 0 1 p = iI (W q).2 → W' p = W q := fun q p hq hp e1 e2 => by
      have h1 := (hW' p hp).1
      have b := (hW.2.2 q hq).2.2
      rw [h1.1] at e1
      rw [h1.2.1, iI_eq (by omega) (by omega) (by omega) (by omega)] at e2
      exact Prod.ext e1 e2
    simp (disch := omega) only [iI_lit, iI_le, iI_in, iI_cl, Int.toNat_natCast]
    refine ⟨fun c => ?_, fun c => ⟨fun c1 => absurd c1 (by omega), fun _ => ⟨by omega, by omega, ?_⟩⟩⟩
    · refine h k W' _ ⟨rfl, by omega, fun i hi => (hW' i hi).1⟩ (by omega) (fun T => ⟨fun hT => ⟨fun q hq => ?_, ?_⟩, fun hT i hi => ?_⟩) (fA.sI (by simp))
      · rcases I3 q hq with ⟨p, hp, e1, e2⟩ | ⟨_, e2⟩
        · rw [← same q p hq hp e1 e2]; exact hT p hp
        · have := (hW.2.2 q hq).2.2; omega
      · show v ≤ _; omega
      · obtain ⟨q, hq, e⟩ := (hW' i hi).2
        rw [e]; exact hT.1 q hq
    · rw [iI_add]
      refine h (k + 1) (fun p => if p = k then (x, v) else W' p) _ ⟨rfl, by omega, fun i hi => ?_⟩ (by omega) (fun T => ⟨fun hT => ⟨fun q hq => ?_, ?_⟩, fun hT i hi => ?_⟩) ((((fA.sI (by simp)).sA (by simp)).sA (by simp)).sI (by simp))
      · simp only [gI_sI, gI_sL, gI_sA, gI_sB, gI_sO, gI_sR, gI_sW, gL_sI, gL_sL, gL_sA, gL_sB, gL_sO, gL_sR, gL_sW, gA_sI, gA_sL, gA_sA, gA_sB, gA_sO, gA_sR, gB_sI, gB_sL, gB_sA, gB_sB, gB_sO, gB_sR, gB_sW, gO_sI, gO_sL, gO_sA, gO_sB, gO_sO, gO_sR, gO_sW, gR_sI, gR_sL, gR_sA, gR_sB, gR_sO, gR_sR, gR_sW, gN_sI, gN_sL, gN_sA, gN_sB, gN_sO, gN_sR, gN_sW, if_true, if_false, Nat.reduceEqDiff, reduceIte]
        by_cases c2 : i = k
        · simp only [if_pos c2]; exact ⟨trivial, trivial, by omega, by omega⟩
        · simp only [if_neg c2]; exact (hW' i (by omega)).1
      · rcases I3 q hq with ⟨p, hp, e1, e2⟩ | ⟨e1, e2⟩
        · rw [← same q p hq hp e1 e2]
          have := hT p (by omega)
          rw [if_neg (by omega)] at this; exact this
        · have := hT k (by omega)
          rw [if_pos rfl] at this
          exact met_of e1 e2 this
      · have := hT k (by omega)
        rw [if_pos rfl] at this; exact this
      · by_cases c2 : i = k
        · simp only [if_pos c2]; exact hT.2
        · simp only [if_neg c2]
          obtain ⟨q, hq, e⟩ := (hW' i (by omega)).2
          rw [e]; exact hT.1 q hq
  have key : ∀ m i k : Nat, ∀ A : PS, i + m = n → k ≤ i → Fr [7] [] [0, 1] [] P5 A → gI A 0 7 = iI (n : Nat) → (∀ p, k ≤ p → p < n → gA A 0 0 p = (W p).1 ∧ gA A 0 1 p = iI (W p).2) → (∀ p, p < k → ∃ q, q < i ∧ gA A 0 0 p = (W q).1 ∧ gA A 0 1 p = iI (W q).2) → (∀ q, q < i → (∃ p, p < k ∧ gA A 0 0 p = (W q).1 ∧ gA A 0 1 p = iI (W q).2) ∨ ((x &&& ((W q).1 ^^^ (-1))) = 0 ∧ (W q).2 ≤ v)) → cX8_addWant_5 (0, 0, 0, 0) d x (iI v) (iI (k : Nat)) (iI (i : Nat)) P0 P1 P2 P3 P4 A R Q := by
    intro m
    induction m with
    | zero =>
      intro i k A hi hk fA gn I1 I2 I3
      have ei : i = n := by omega
      subst ei
      refine gX8_addWant_5 ?_
      unfold fX8_addWant_5
      rw [gn]
      refine ⟨fun _ => fin k A hk fA I2 I3 (by simp), fun c => absurd ?_ c⟩
      exact Int32.le_refl _
    | succ m ih =>
      intro i k A hi hk fA gn I1 I2 I3
      refine gX8_addWant_5 ?_
      unfold fX8_addWant_5
      have g1 := I1 i (by omega) (by omega)
      have bw := (hW.2.2 i (by omega)).2.2
      have hv77 : ∀ s : Int32, (s = 0 ∨ (s = 1 ∧ (x &&& ((W i).1 ^^^ (-1))) = 0 ∧ (W i).2 ≤ v)) → cX8_addWant_77 (0, 0, 0, 0) d x (iI v) (iI (k : Nat)) (iI (i : Nat)) s P0 P1 P2 P3 P4 A R Q := by
        intro s hs
        refine gX8_addWant_77 ?_
        unfold fX8_addWant_77
        simp (disch := omega) only [show (1 : Int32) = iI 1 from rfl, iI_in, iI_cl, iI_add, Int.toNat_natCast]
        rw [g1.1, g1.2]
        refine ⟨fun c => ?_, fun c => ⟨by omega, by omega, by omega, by omega, ?_⟩⟩
        · rcases hs with e | ⟨_, e1, e2⟩
          · exact absurd e c
          · refine ih (i + 1) k A (by omega) (by omega) fA gn I1 (fun p hp => ?_) (fun q hq => ?_)
            · obtain ⟨q, hq, e⟩ := I2 p hp
              exact ⟨q, by omega, e⟩
            · by_cases cq : q = i
              · rw [cq]; exact Or.inr ⟨e1, e2⟩
              · exact I3 q (by omega)
        · refine ih (i + 1) (k + 1) _ (by omega) (by omega) ((fA.sA (by simp)).sA (by simp)) gn (fun p hp1 hp2 => ?_) (fun p hp => ?_) (fun q hq => ?_)
          · simp only [gI_sI, gI_sL, gI_sA, gI_sB, gI_sO, gI_sR, gI_sW, gL_sI, gL_sL, gL_sA, gL_sB, gL_sO, gL_sR, gL_sW, gA_sI, gA_sL, gA_sA, gA_sB, gA_sO, gA_sR, gB_sI, gB_sL, gB_sA, gB_sB, gB_sO, gB_sR, gB_sW, gO_sI, gO_sL, gO_sA, gO_sB, gO_sO, gO_sR, gO_sW, gR_sI, gR_sL, gR_sA, gR_sB, gR_sO, gR_sR, gR_sW, gN_sI, gN_sL, gN_sA, gN_sB, gN_sO, gN_sR, gN_sW, if_true, if_false, Nat.reduceEqDiff, reduceIte]
            have : ¬ p = k := by omega
            simp only [if_neg this]
            exact I1 p (by omega) hp2
          · simp only [gI_sI, gI_sL, gI_sA, gI_sB, gI_sO, gI_sR, gI_sW, gL_sI, gL_sL, gL_sA, gL_sB, gL_sO, gL_sR, gL_sW, gA_sI, gA_sL, gA_sA, gA_sB, gA_sO, gA_sR, gB_sI, gB_sL, gB_sA, gB_sB, gB_sO, gB_sR, gB_sW, gO_sI, gO_sL, gO_sA, gO_sB, gO_sO, gO_sR, gO_sW, gR_sI, gR_sL, gR_sA, gR_sB, gR_sO, gR_sR, gR_sW, gN_sI, gN_sL, gN_sA, gN_sB, gN_sO, gN_sR, gN_sW, if_true, if_false, Nat.reduceEqDiff, reduceIte]
            by_cases cp : p = k
            · simp only [if_pos cp]; exact ⟨i, by omega, rfl, rfl⟩
            · simp only [if_neg cp]
              obtain ⟨q, hq, e⟩ := I2 p (by omega)
              exact ⟨q, by omega, e⟩
          · simp only [gI_sI, gI_sL, gI_sA, gI_sB, gI_sO, gI_sR, gI_sW, gL_sI, gL_sL, gL_sA, gL_sB, gL_sO, gL_sR, gL_sW, gA_sI, gA_sL, gA_sA, gA_sB, gA_sO, gA_sR, gB_sI, gB_sL, gB_sA, gB_sB, gB_sO, gB_sR, gB_sW, gO_sI, gO_sL, gO_sA, gO_sB, gO_sO, gO_sR, gO_sW, gR_sI, gR_sL, gR_sA, gR_sB, gR_sO, gR_sR, gR_sW, gN_sI, gN_sL, gN_sA, gN_sB, gN_sO, gN_sR, gN_sW, if_true, if_false, Nat.reduceEqDiff, reduceIte]
            by_cases cq : q = i
            · refine Or.inl ⟨k, by omega, ?_⟩
              rw [cq]
              simp only [if_true]
              exact ⟨trivial, trivial⟩
            · rcases I3 q (by omega) with ⟨p, hp, e⟩ | e
              · refine Or.inl ⟨p, by omega, ?_⟩
                have : ¬ p = k := by omega
                simp only [if_neg this]; exact e
              · exact Or.inr e
      -- the rest after the first test failed
      have rest : vp_in (iI (i : Nat)) 100 ∧ ((¬ (x &&& ((gA A 0 0 (iI (i : Nat)).toNatClampNeg) ^^^ (-1 : Int32))) = 0 → cX8_addWant_77 (0, 0, 0, 0) d x (iI v) (iI (k : Nat)) (iI (i : Nat)) (0 : Int32) P0 P1 P2 P3 P4 A R Q) ∧ ((x &&& ((gA A 0 0 (iI (i : Nat)).toNatClampNeg) ^^^ (-1 : Int32))) = 0 → vp_in (iI (i : Nat)) 100 ∧ ((iI v < (gA A 0 1 (iI (i : Nat)).toNatClampNeg) → cX8_addWant_77 (0, 0, 0, 0) d x (iI v) (iI (k : Nat)) (iI (i : Nat)) (0 : Int32) P0 P1 P2 P3 P4 A R Q) ∧ (¬ iI v < (gA A 0 1 (iI (i : Nat)).toNatClampNeg) → cX8_addWant_77 (0, 0, 0, 0) d x (iI v) (iI (k : Nat)) (iI (i : Nat)) (1 : Int32) P0 P1 P2 P3 P4 A R Q)))) := by
        have hvp : vp_in (iI (i : Nat)) 100 := vpk (by omega) (by omega)
        rw [iI_cl (by omega) (by omega), Int.toNat_natCast, g1.1, g1.2, iI_lt (by omega) (by omega) (by omega) (by omega)]
        exact ⟨hvp, fun _ => hv77 0 (Or.inl rfl), fun c => ⟨hvp, fun _ => hv77 0 (Or.inl rfl), fun c1 => hv77 1 (Or.inr ⟨rfl, c, by omega⟩)⟩⟩
      have hvp : vp_in (iI (i : Nat)) 100 := vpk (by omega) (by omega)
      rw [gn, iI_le (by omega) (by omega) (by omega) (by omega), show (100 : Int32) = iI 100 from rfl, iI_le (a := 100) (b := (i : Nat)) (by omega) (by omega) (by omega) (by omega)]
      refine ⟨fun c => absurd c (by omega), fun _ => ⟨fun c => absurd c (by omega), fun _ => ⟨hvp, fun _ => rest, fun c => ⟨hvp, fun _ => rest, fun c1 => ?_⟩⟩⟩⟩
      rw [iI_cl (by omega) (by omega), Int.toNat_natCast] at c c1
      rw [g1.2, iI_lt (by omega) (by omega) (by omega) (by omega)] at c1
      rw [g1.1] at c
      -- an old want brings the new one along
      refine h n (fun p => (gA A 0 0 p, (gA A 0 1 p).toInt)) A ⟨gn, hW.2.1, fun p hp => ?_⟩ (by omega) (fun T => ?_) fA
      · by_cases cp : p < k
        · obtain ⟨q, hq, e1, e2⟩ := I2 p cp
          have b := (hW.2.2 q (by omega)).2.2
          dsimp only
          rw [e2, iI_t (by omega) (by omega)]
          exact ⟨rfl, rfl, b⟩
        · have e := I1 p (by omega) hp
          have b := (hW.2.2 p hp).2.2
          dsimp only
          rw [e.2, iI_t (by omega) (by omega)]
          exact ⟨rfl, rfl, b⟩
      · have at' : ∀ p q, q < n → gA A 0 0 p = (W q).1 → gA A 0 1 p = iI (W q).2 → (gA A 0 0 p, (gA A 0 1 p).toInt) = W q := fun p q hq e1 e2 => by
          have b := (hW.2.2 q hq).2.2
          rw [e1, e2, iI_t (by omega) (by omega)]
        refine ⟨fun hT => ?_, fun hT p hp => ?_⟩
        · have mi : met T (W i) := by rw [← at' i i (by omega) g1.1 g1.2]; exact hT i (by omega)
          have mx : met T (x, v) := met_of c (by show v ≤ (W i).2; omega) mi
          refine ⟨fun q hq => ?_, mx⟩
          by_cases cq : q < i
          · rcases I3 q cq with ⟨p, hp, e1, e2⟩ | ⟨e1, e2⟩
            · rw [← at' p q hq e1 e2]; exact hT p (by omega)
            · exact met_of e1 e2 mx
          · have e := I1 q (by omega) hq
            rw [← at' q q hq e.1 e.2]; exact hT q hq
        · by_cases cp : p < k
          · obtain ⟨q, hq, e1, e2⟩ := I2 p cp
            rw [at' p q (by omega) e1 e2]; exact hT.1 q (by omega)
          · have e := I1 p (by omega) hp
            rw [at' p p hp e.1 e.2]; exact hT.1 p hp
  exact key n 0 0 P5 (by omega) (by omega) Fr.rf hW.1 (fun p _ hp => ⟨(hW.2.2 p hp).1, (hW.2.2 p hp).2.1⟩) (fun p hp => absurd hp (Nat.not_lt_zero p)) (fun q hq => absurd hq (Nat.not_lt_zero q))
