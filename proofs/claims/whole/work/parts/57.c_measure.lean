/-! ===== the class: the lengths between the stars of a BOOK ===== -/
def dsq (l : List SR) (u v : Nat) : Int := ((nthS l u).2.1 - (nthS l v).2.1) * ((nthS l u).2.1 - (nthS l v).2.1) + ((nthS l u).2.2.1 - (nthS l v).2.2.1) * ((nthS l u).2.2.1 - (nthS l v).2.2.1)
def lenS (l : List SR) (u v : Nat) : Nat := rt (100 * (dsq l u v).toNat)
theorem dsq_sym (l : List SR) (u v : Nat) : dsq l u v = dsq l v u := by
  unfold dsq
  rw [show (nthS l u).2.1 - (nthS l v).2.1 = -((nthS l v).2.1 - (nthS l u).2.1) by omega, show (nthS l u).2.2.1 - (nthS l v).2.2.1 = -((nthS l v).2.2.1 - (nthS l u).2.2.1) by omega, Int.neg_mul_neg, Int.neg_mul_neg]
theorem lenS_sym (l : List SR) (u v : Nat) : lenS l u v = lenS l v u := by unfold lenS; rw [dsq_sym]
theorem dsq_bd {l : List SR} (h : ∀ s ∈ l, StOK s) {u v : Nat} (hu : u < l.length) (hv : v < l.length) : 0 ≤ dsq l u v ∧ dsq l u v ≤ 1996002 := by
  have h1 := h _ (nthS_mem hu)
  have h2 := h _ (nthS_mem hv)
  have b1 := sq_bd (a := (nthS l u).2.1 - (nthS l v).2.1) (B := 999) (by have := h1.2.1; have := h2.2.1; omega) (by have := h1.2.1; have := h2.2.1; omega)
  have b2 := sq_bd (a := (nthS l u).2.2.1 - (nthS l v).2.2.1) (B := 999) (by have := h1.2.2.1; have := h2.2.2.1; omega) (by have := h1.2.2.1; have := h2.2.2.1; omega)
  unfold dsq; omega
def MsC (j : Nat) (l : List SR) (i k : Nat) (P : PS) : Prop := ∀ u v, u < 32 → v < 32 → u ≠ v → ((u < i ∧ v < i) ∨ (u = i ∧ v < k) ∨ (v = i ∧ u < k)) → gA P j 4 (u * 32 + v) = iI (lenS l u v : Nat)
def LnC (j : Nat) (l : List SR) (P : PS) : Prop := ∀ u v, u < l.length → v < l.length → gA P j 4 (u * 32 + v) = iI (lenS l u v : Nat)
theorem SsC.sA4 {j i : Nat} {l : List SR} {v : Int32} {P : PS} (h : SsC j l P) : SsC j l (sA P j 4 i v) := h
theorem C_measure {d j : Nat} {l : List SR} {f : Nat → Int} {P0 P1 P2 : PS} {R : List PS} {Q : Option AV → List PS → Prop} (hS : SsC j l P2) (hT : TdC j f P2) (hD : DgC j P2) (h : ∀ P2', SsC j l P2' → TdC j f P2' → LnC j l P2' → DgC j P2' → FrJ j P2 P2' → Q none (P0 :: P1 :: P2' :: R)) : Tri 12 (d + 1) [vR 2 j 0] (P0 :: P1 :: P2 :: R) Q := by
  refine enX0_measure ?_
  unfold fX0_measure_0
  have hl := hS.2.1
  have inner : ∀ (i : Nat), i < l.length → (∀ P, SsC j l P → TdC j f P → MsC j l (i + 1) 0 P → DgC j P → FrJ j P2 P → cX0_measure_2 (0, 0, 0, 0) d j (iI ((i + 1 : Nat))) P0 P1 P R Q) → ∀ (m k : Nat) (P : PS), k + m = i → SsC j l P → TdC j f P → MsC j l i k P → DgC j P → FrJ j P2 P → cX0_measure_18 (0, 0, 0, 0) d j (iI (i : Nat)) (iI (k : Nat)) P0 P1 P R Q := by
    intro i hi out m
    induction m with
    | zero =>
      intro k P hk s t ms dg fj
      have hki : k = i := by omega
      refine gX0_measure_18 ?_
      unfold fX0_measure_18
      rw [iI_le (by omega) (by omega) (by omega) (by omega)]
      refine ⟨fun _ => ?_, fun c => absurd (by omega) c⟩
      rw [show (1 : Int32) = iI 1 from rfl, iI_add]
      refine out P s t (fun u v hu hv hne hc => ms u v hu hv hne ?_) dg fj
      omega
    | succ m ih =>
      intro k P hk s t ms dg fj
      refine gX0_measure_18 ?_
      unfold fX0_measure_18
      have hb := dsq_bd s.2.2.1 hi (show k < l.length by omega)
      have si := s.2.2.2 i hi
      have sk := s.2.2.2 k (by omega)
      rw [iI_le (by omega) (by omega) (by omega) (by omega), iI_in (by omega) (by omega), iI_in (by omega) (by omega), iI_cl (by omega) (by omega), iI_cl (by omega) (by omega), show ((i : Nat) : Int).toNat = i by omega, show ((k : Nat) : Int).toNat = k by omega, si.2.1, sk.2.1, iI_sub]
      refine ⟨fun c => absurd c (by omega), fun _ => ⟨by omega, by omega, ?_⟩⟩
      refine C_square rfl ?_
      dsimp only [hx3, rI]
      refine ⟨by omega, by omega, ?_⟩
      rw [si.2.2.1, sk.2.2.1, iI_sub]
      refine C_square rfl ?_
      dsimp only [hx3, rI]
      rw [iI_add, show ((nthS l i).2.1 - (nthS l k).2.1) * ((nthS l i).2.1 - (nthS l k).2.1) + ((nthS l i).2.2.1 - (nthS l k).2.2.1) * ((nthS l i).2.2.1 - (nthS l k).2.2.1) = dsq l i k from rfl]
      refine C_root (s := 100 * (dsq l i k).toNat) ?_ (by omega) ?_
      · rw [iI_l (by omega) (by omega), show (100 : Int64) = iL 100 from rfl, iL_mul]; congr 1; omega
      dsimp only [hx3, rL]
      rw [show (32 : Int32) = iI 32 from rfl, iI_mul, iI_mul, iI_add, iI_add, iI_in (by omega) (by omega), iI_in (by omega) (by omega), iI_cl (by omega) (by omega), iI_cl (by omega) (by omega), iL_i, show (1 : Int32) = iI 1 from rfl, iI_add, show ((i : Nat) : Int) * 32 + (k : Nat) = ((i * 32 + k : Nat) : Int) by omega, show ((k : Nat) : Int) * 32 + (i : Nat) = ((k * 32 + i : Nat) : Int) by omega, Int.toNat_natCast, Int.toNat_natCast]
      refine ⟨by omega, by omega, ?_⟩
      refine ih (k + 1) _ (by omega) s t ?_ (fun u hu => ?_) fj.sA.sA
      rotate_left
      · simp only [gA_sA, if_true]
        rw [if_neg (by omega), if_neg (by omega)]
        exact dg u hu
      intro u v hu hv hne hc
      simp only [gA_sA, if_true]
      by_cases c1 : u * 32 + v = k * 32 + i
      · have : u = k ∧ v = i := by omega
        rw [if_pos c1, this.1, this.2, lenS_sym]; rfl
      · rw [if_neg c1]
        by_cases c2 : u * 32 + v = i * 32 + k
        · have : u = i ∧ v = k := by omega
          rw [if_pos c2, this.1, this.2]; rfl
        · rw [if_neg c2]
          exact ms u v hu hv hne (by omega)
  have outer : ∀ (m i : Nat) (P : PS), i + m = l.length → SsC j l P → TdC j f P → MsC j l i 0 P → DgC j P → FrJ j P2 P → cX0_measure_2 (0, 0, 0, 0) d j (iI (i : Nat)) P0 P1 P R Q := by
    intro m
    induction m with
    | zero =>
      intro i P hi s t ms dg fj
      refine gX0_measure_2 ?_
      unfold fX0_measure_2
      rw [s.1, iI_le (by omega) (by omega) (by omega) (by omega)]
      refine ⟨fun _ => h P s t (fun u v hu hv => ?_) dg fj, fun c => absurd (by omega) c⟩
      by_cases hne : u = v
      · subst hne
        have e : lenS l u u = 0 := by unfold lenS dsq; rw [Int.sub_self, Int.sub_self]; rfl
        rw [e]; exact dg u (by omega)
      · exact ms u v (by omega) (by omega) hne (Or.inl (by omega))
    | succ m ih =>
      intro i P hi s t ms dg fj
      refine gX0_measure_2 ?_
      unfold fX0_measure_2
      rw [s.1, show (32 : Int32) = iI 32 from rfl, iI_le (by omega) (by omega) (by omega) (by omega), iI_le (by omega) (by omega) (by omega) (by omega)]
      exact ⟨fun c => absurd c (by omega), fun _ => ⟨fun c => absurd c (by omega), fun _ => inner i (by omega) (fun P' s' t' ms' dg' fj' => ih (i + 1) P' (by omega) s' t' ms' dg' fj') i 0 P (by omega) s t ms dg fj⟩⟩
  exact outer l.length 0 P2 (by omega) hS hT (fun u v _ _ _ hc => by omega) hD FrJ.rf
