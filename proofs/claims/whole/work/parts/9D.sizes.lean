/-! ===== the class: all NAMINGS of a picture ===== -/
theorem unC_32 {r : Nat → Nat} {q : Nat} (hr : r q ≠ 32) : ∀ n, unC (upN r q 32) n = unC r n + (if q < n then 1 else 0)
  | 0 => rfl
  | n + 1 => by
    rw [unC_s, unC_s, unC_32 hr n]
    by_cases c : n = q
    · subst c
      rw [if_neg (Nat.lt_irrefl n), if_pos (show upN r n 32 n = 32 by unfold upN; rw [if_pos rfl]), if_neg hr, if_pos (by omega)]
    · rw [show upN r q 32 n = r n by unfold upN; rw [if_neg c]]
      by_cases cq : q < n
      · rw [if_pos cq, if_pos (show q < n + 1 by omega)]; omega
      · rw [if_neg cq, if_neg (show ¬ q < n + 1 by omega)]; omega
/-- names that differ are no more than the stars -/
theorem unC_hole : ∀ (n A : Nat) (r : Nat → Nat), n ≤ 32 → (∀ q, q < A → r q = 32 ∨ r q < n) → (∀ p q, p < q → q < A → r p = 32 ∨ r q = 32 ∨ r p ≠ r q) → A ≤ unC r A + n
  | 0, A, r, _, h, _ => by
    have : ∀ m, m ≤ A → unC r m = m := by
      intro m
      induction m with
      | zero => intro _; rfl
      | succ m ih => intro hm; rw [unC_s, ih (by omega), if_pos (by rcases h m (by omega) with g | g; exact g; omega)]
    rw [this A (Nat.le_refl _)]; omega
  | n + 1, A, r, hn, h, hd => by
    by_cases c : ∃ q, q < A ∧ r q = n
    · obtain ⟨q, hq, e⟩ := c
      have e' : upN r q 32 q = 32 := by unfold upN; rw [if_pos rfl]
      have eo : ∀ p, p ≠ q → upN r q 32 p = r p := fun p hp => by unfold upN; rw [if_neg hp]
      have := unC_hole n A (upN r q 32) (by omega) (fun p hp => by
        by_cases cp : p = q
        · rw [cp, e']; exact Or.inl rfl
        · rw [eo p cp]
          rcases h p hp with g | g
          · exact Or.inl g
          · by_cases cn : r p = n
            · exfalso
              rcases Nat.lt_or_ge p q with l1 | l1
              · rcases hd p q l1 hq with t | t | t <;> omega
              · rcases hd q p (by omega) hp with t | t | t <;> omega
            · exact Or.inr (by omega)) (fun p p' h1 h2 => by
        by_cases c1 : p = q
        · rw [c1, e']; exact Or.inl rfl
        · by_cases c2 : p' = q
          · rw [c2, e']; exact Or.inr (Or.inl rfl)
          · rw [eo p c1, eo p' c2]; exact hd p p' h1 h2)
      rw [unC_32 (by omega) A, if_pos hq] at this
      omega
    · have := unC_hole n A r (by omega) (fun q hq => by
        rcases h q hq with g | g
        · exact Or.inl g
        · exact Or.inr (by have : r q ≠ n := fun e => c ⟨q, hq, e⟩; omega)) hd
      omega
theorem nmg_nil {X Y : Nat → Int} {l : List SR} {o : Int} {A g : Nat} (hl : l.length ≤ 32) (h : l.length < g) (hg : g ≤ A) : nmg X Y l o A g = [] := by
  unfold nmg
  have : ext1 X Y l o (A - g) A 0 (fun _ => 32) = [] := by
    refine List.eq_nil_iff_forall_not_mem.mpr (fun r hr => ?_)
    have e := ext1_ok A 0 (fun _ => 32) r hr
    rw [Nat.zero_add] at e
    have := unC_hole l.length A r hl (fun q hq => (e.2.1 q (Nat.zero_le _) hq).1) (fun p q hp hq => by
      rcases (e.2.1 q (Nat.zero_le _) hq).2 with t | t
      · exact Or.inr (Or.inl t)
      · rcases t p hp with u | u
        · exact Or.inl u
        · exact Or.inr (Or.inr u.1))
    have := e.2.2
    omega
  rw [this]; rfl
theorem nmF_skip {X Y : Nat → Int} {l : List SR} {o : Int} {A m : Nat} (h : ∀ g, m < g → g ≤ A → nmg X Y l o A g = []) : ∀ G, m ≤ G → G ≤ A → nmF X Y l o A G = nmF X Y l o A m
  | 0, h1, _ => by rw [show m = 0 by omega]
  | 1, h1, _ => by rcases (show m = 0 ∨ m = 1 by omega) with e | e <;> subst e <;> rfl
  | 2, h1, _ => by rcases (show m = 0 ∨ m = 1 ∨ m = 2 by omega) with e | e | e <;> subst e <;> rfl
  | g + 3, h1, h2 => by
    by_cases c : m = g + 3
    · rw [c]
    · have e : nmF X Y l o A (g + 3) = if (nmg X Y l o A (g + 3)).length = 0 then nmF X Y l o A (g + 2) else (nmg X Y l o A (g + 3), g + 3) := rfl
      rw [e, h (g + 3) (by omega) h2, if_pos List.length_nil]
      exact nmF_skip h (g + 2) (by omega) (by omega)
/-- what a picture keeps of its NAMINGS -/
def NcC (j : Nat) (X Y : Nat → Int) (l : List SR) (o : Int) (A : Nat) (P : PS) : Prop := FdC j A (nmS X Y l o A).1 P ∧ gI P j 12 = iI ((nmS X Y l o A).2 : Nat) ∧ ∀ r, r < A → ∀ p, p < r → gA P j 8 (prO p r) = iI (fitN X Y l o p r : Nat)
theorem C_sizes {d j kb A : Nat} {X Y : Nat → Int} {l : List SR} {f : Nat → Int} {P0 P1 P2 P3 P4 P5 P6 P7 P8 : PS} {R : List PS} {Q : Option AV → List PS → Prop} (hA : A ≤ 6) (hX : ∀ i, i < A → (0 ≤ X i ∧ X i ≤ 1395) ∧ 0 ≤ Y i ∧ Y i ≤ 1395) (hB : BoC kb l f P2) (hPl : PlC X Y A P8) (hFb : ∀ r, r < A → ∀ p, p < r → FbC X Y l (f 4) p r P8) (hpf : ∀ r, r < A → ∀ p, p < r → gA P3 j 8 (prO p r) = iI (fitN X Y l (f 4) p r : Nat)) (h : ∀ P3' P8', NcC j X Y l (f 4) A P3' → FrO j [11, 12] [] [] [9] P3 P3' → Fr [5] [] [3] [] P8 P8' → Q none (P0 :: P1 :: P2 :: P3' :: P4 :: P5 :: P6 :: P7 :: P8' :: R)) : ∀ (g : Nat) (A3 A8 : PS), g ≤ A → nmF X Y l (f 4) A g = nmS X Y l (f 4) A → FrO j [11, 12] [] [] [9] P3 A3 → Fr [5] [] [3] [] P8 A8 → gI A3 j 11 = iI 0 → gI A3 j 12 = iI 0 → cX2_nameAll_78 (0, 0, 0, 0) (d + 9) j kb (iI (g : Nat)) P0 P1 P2 A3 P4 P5 P6 P7 A8 R Q := by
  have npf : ∀ {A3}, FrO j [11, 12] [] [] [9] P3 A3 → ∀ r, r < A → ∀ p, p < r → gA A3 j 8 (prO p r) = iI (fitN X Y l (f 4) p r : Nat) := fun fr r hr p hp => by
    rw [fr.2.2.2.1 8 _ (by simp)]; exact hpf r hr p hp
  have nil : ∀ {A3}, gI A3 j 11 = iI 0 → FdC j A [] A3 := fun e => ⟨e, by decide, fun q hq => absurd hq (Nat.not_lt_zero q)⟩
  intro g
  induction g with
  | zero =>
    intro A3 A8 hg hnm f3 f8 n0 m0
    refine gX2_nameAll_78 ?_
    unfold fX2_nameAll_78
    refine ⟨fun _ => h A3 A8 ⟨?_, ?_, npf f3⟩ f3 f8, fun c => absurd (by decide) c⟩
    · rw [← hnm]; exact nil n0
    · rw [← hnm]; exact m0
  | succ g ih =>
    intro A3 A8 hg hnm f3 f8 n0 m0
    refine gX2_nameAll_78 ?_
    unfold fX2_nameAll_78
    have small : g + 1 < 3 → nmF X Y l (f 4) A (g + 1) = ([], 0) := fun q => by
      rcases (show g = 0 ∨ g = 1 by omega) with e | e <;> subst e <;> rfl
    rw [n0, show (3 : Int32) = iI 3 from rfl, iI_lt (by omega) (by omega) (by omega) (by omega)]
    refine ⟨fun c => h A3 A8 ⟨?_, ?_, npf f3⟩ f3 f8, fun c => ⟨fun c1 => absurd rfl c1, fun _ => ?_⟩⟩
    · rw [← hnm, small (by omega)]; exact nil n0
    · rw [← hnm, small (by omega)]; exact m0
    obtain ⟨g', rfl⟩ : ∃ g', g = g' + 2 := ⟨g - 2, by omega⟩
    have eF : nmF X Y l (f 4) A (g' + 2 + 1) = if (nmg X Y l (f 4) A (g' + 2 + 1)).length = 0 then nmF X Y l (f 4) A (g' + 2) else (nmg X Y l (f 4) A (g' + 2 + 1), g' + 2 + 1) := rfl
    have lle := nmg_le X Y l (f 4) A (g' + 2 + 1)
    have eg : iI ((g' + 2 + 1 : Nat)) + -1 = iI ((g' + 2 : Nat)) := by rw [show (-1 : Int32) = iI (-1) from rfl, iI_add]; refine congrArg iI ?_; omega
    have f8' : Fr [5] [] [3] [] P8 (sI A8 0 5 (iI ((g' + 2 + 1 : Nat)))) := f8.sI (by simp)
    have ng : NgC X Y l (f 4) A (g' + 2 + 1) (sI A8 0 5 (iI ((g' + 2 + 1 : Nat)))) := by
      refine ⟨⟨?_, fun i hi => ?_⟩, fun r hr p hp s t hs ht => ?_, rfl⟩
      · rw [f8'.2.1 4 (by simp)]; exact hPl.1
      · rw [f8'.2.2.2.1 1 i (by simp), f8'.2.2.2.1 2 i (by simp)]; exact hPl.2 i hi
      · rw [f8'.2.2.2.1 0 _ (by simp)]; exact hFb r hr p hp s t hs ht
    have := C_nameFrom (d := d + (6 - A)) (j := j) (kb := kb) (l := l) (f := f) hA hg hX A 0 (fun _ => 32) [] (P0 := P0) (P1 := P1) (P2 := P2) (P3 := A3) (P4 := P4) (P5 := P5) (P6 := P6) (P7 := P7) (P8 := sI A8 0 5 (iI ((g' + 2 + 1 : Nat)))) (R := R) (Q := fun r2 h2 => hx9 h2 fun P0 P1 P2 P3 P4 P5 P6 P7 P8 R => rV r2 ((¬ (gI P3 j 11) = 0 → cX2_nameAll_78 (0, 0, 0, 0) (d + 9) j kb (iI ((g' + 2 + 1 : Nat)) + -1) P0 P1 P2 (sI P3 j 12 (iI ((g' + 2 + 1 : Nat)))) P4 P5 P6 P7 P8 R Q) ∧ ((gI P3 j 11) = 0 → cX2_nameAll_78 (0, 0, 0, 0) (d + 9) j kb (iI ((g' + 2 + 1 : Nat)) + -1) P0 P1 P2 (sI P3 j 12 0) P4 P5 P6 P7 P8 R Q))) (by omega) hB ng (fun q hq => absurd hq (Nat.not_lt_zero q)) (fun q hq => absurd hq (Nat.not_lt_zero q)) (Nat.zero_le _) (nil n0) (fun B3 B8 dd _ g8 g3 => by
        dsimp only [hx9, rV]
        rw [List.nil_append] at dd
        have dd' : FdC j A (nmg X Y l (f 4) A (g' + 2 + 1)) B3 := dd
        have F3 : FrO j [11, 12] [] [] [9] P3 B3 := f3.tr (g3.mono (by simp) (by simp) (by simp) (by simp))
        have F8 : Fr [5] [] [3] [] P8 B8 := f8'.trs (g8.mono (by simp) (by simp) (by simp) (by simp))
        rw [dd'.1, eg, show (0 : Int32) = iI 0 from rfl, iI_eq (by omega) (by omega) (by omega) (by omega)]
        refine ⟨fun c1 => ?_, fun c1 => ?_⟩
        · have nz : ¬ (nmg X Y l (f 4) A (g' + 2 + 1)).length = 0 := by omega
          have en : nmS X Y l (f 4) A = (nmg X Y l (f 4) A (g' + 2 + 1), g' + 2 + 1) := by rw [← hnm, eF, if_neg nz]
          have F3' : FrO j [11, 12] [] [] [9] P3 (sI B3 j 12 (iI ((g' + 2 + 1 : Nat)))) := F3.sI
          have g12 : gI (sI B3 j 12 (iI ((g' + 2 + 1 : Nat)))) j 12 = iI ((g' + 2 + 1 : Nat)) := by rw [gI_sI, if_pos rfl, if_pos rfl]
          have fin : Q none (P0 :: P1 :: P2 :: (sI B3 j 12 (iI ((g' + 2 + 1 : Nat)))) :: P4 :: P5 :: P6 :: P7 :: B8 :: R) := h _ B8 ⟨by rw [en]; exact dd', by rw [en]; exact g12, npf F3'⟩ F3' F8
          have g11 : gI (sI B3 j 12 (iI ((g' + 2 + 1 : Nat)))) j 11 = iI ((nmg X Y l (f 4) A (g' + 2 + 1)).length : Nat) := dd'.1
          refine gX2_nameAll_78 ?_
          unfold fX2_nameAll_78
          rw [g11]
          refine ⟨fun _ => fin, fun _ => ⟨fun _ => fin, fun c3 => ?_⟩⟩
          rw [show (0 : Int32) = iI 0 from rfl, iI_eq (by omega) (by omega) (by omega) (by omega)] at c3; omega
        · have z0 : (nmg X Y l (f 4) A (g' + 2 + 1)).length = 0 := by omega
          refine ih (sI B3 j 12 (iI 0)) B8 (by omega) ?_ F3.sI F8 ?_ ?_
          · rw [← hnm, eF, if_pos z0]
          · show gI B3 j 11 = _
            rw [dd'.1, z0]; rfl
          · rw [gI_sI, if_pos rfl, if_pos rfl])
    rw [show d + (6 - A) + A + 3 = d + 9 by omega] at this
    exact this
