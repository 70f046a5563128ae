/-! ===== BOOKS: has, lengths, LENGTH, both sides ===== -/
theorem C_has {d j : Nat} {a : Int} {l : List SR} {x : Int32} {P0 P1 P2 : PS} {R : List PS} {Q : Option AV → List PS → Prop} (hx : x = iI a) (ha : -2147483648 ≤ a ∧ a < 2147483648) (hS : SsC j l P2) (h : Q (some (vI (oI (decide (0 ≤ a ∧ a < l.length))))) (P0 :: P1 :: P2 :: R)) : Tri 2 d [vR 2 j 0, vI x] (P0 :: P1 :: P2 :: R) Q := by
  subst hx
  refine enX0_has ?_
  unfold fX0_has_0
  have hl := hS.2.1
  rw [hS.1]
  simp (disch := omega) only [iI_lit, iI_lt, iI_le]
  refine ⟨fun c => ⟨Or.inl trivial, ?_⟩, fun c => ⟨fun c1 => ⟨Or.inl trivial, ?_⟩, fun c1 => ⟨fun c2 => absurd c2 (by omega), fun c2 => ⟨Or.inr trivial, ?_⟩⟩⟩⟩
  · rw [decide_eq_false (by omega)] at h; exact h
  · rw [decide_eq_false (by omega)] at h; exact h
  · rw [decide_eq_true (by omega)] at h; exact h
theorem C_lengthOf {d j u v : Nat} {l : List SR} {x y : Int32} {P0 P1 P2 : PS} {R : List PS} {Q : Option AV → List PS → Prop} (hx : x = iI (u : Nat)) (hy : y = iI (v : Nat)) (hu : u < l.length) (hv : v < l.length) (hS : SsC j l P2) (hL : LnC j l P2) (h : Q (some (vI (iI (lenS l u v : Nat)))) (P0 :: P1 :: P2 :: R)) : Tri 13 (d + 1) [vR 2 j 0, vI x, vI y] (P0 :: P1 :: P2 :: R) Q := by
  subst hx hy
  have hl := hS.2.1
  refine enX0_lengthOf ?_
  unfold fX0_lengthOf_0
  refine C_has rfl (by omega) hS ?_
  dsimp only [hx3, rI]
  rw [oI_dec]
  refine ⟨fun c => absurd (by omega) c, fun _ => C_has rfl (by omega) hS ?_⟩
  dsimp only [hx3, rI]
  rw [oI_dec]
  refine ⟨fun c => absurd (by omega) c, fun _ => ?_⟩
  simp (disch := omega) only [iI_lit, iI_mul, iI_add, iI_in, iI_cl]
  rw [show ((u : Nat) * 32 + (v : Nat) : Int).toNat = u * 32 + v by omega, hL u v hu hv]
  exact ⟨by omega, h⟩
/-- a BOOK in the Model -/
def BoM (l : List SR) (f : Nat → Int) (P : PS) : Prop := (gI P 0 22 = iI l.length ∧ l.length ≤ 32 ∧ (∀ s ∈ l, StOK s) ∧ ∀ i, i < l.length → gA P 0 16 i = iI (nthS l i).2.1 ∧ gA P 0 17 i = iI (nthS l i).2.2.1 ∧ gA P 0 18 i = iI (nthS l i).2.2.2) ∧ ∀ k, k < 12 → gA P 0 12 k = iI (f k)
/-- what may be told -/
def FOK (f : Nat → Int) : Prop := (4 ≤ f 0 ∧ f 0 ≤ 16) ∧ (1 ≤ f 1 ∧ f 1 ≤ 9) ∧ (1 ≤ f 2 ∧ f 2 ≤ 999) ∧ (0 ≤ f 3 ∧ f 3 ≤ 9) ∧ (0 ≤ f 4 ∧ f 4 ≤ 5) ∧ (1 ≤ f 5 ∧ f 5 ≤ 9999) ∧ (100 ≤ f 6 ∧ f 6 ≤ 999) ∧ (1 ≤ f 7 ∧ f 7 ≤ 6) ∧ (-99 ≤ f 8 ∧ f 8 ≤ 99) ∧ (-99 ≤ f 9 ∧ f 9 ≤ 99) ∧ (1 ≤ f 10 ∧ f 10 ≤ 99) ∧ 1 ≤ f 11 ∧ f 11 ≤ 99
theorem BoM.st {l : List SR} {f : Nat → Int} {P : PS} (h : BoM l f P) {i : Nat} (hi : i < l.length) : (0 ≤ (nthS l i).2.1 ∧ (nthS l i).2.1 ≤ 999) ∧ (0 ≤ (nthS l i).2.2.1 ∧ (nthS l i).2.2.1 ≤ 999) ∧ 1 ≤ (nthS l i).2.2.2 ∧ (nthS l i).2.2.2 ≤ 99 := (h.1.2.2.1 _ (nthS_mem hi)).2
theorem BoM.fr {l : List SR} {f : Nat → Int} {P P' : PS} {is ls as bs : List Nat} (h : BoM l f P) (hf : Fr is ls as bs P P') (h1 : 22 ∉ is) (h2 : 16 ∉ as) (h3 : 17 ∉ as) (h4 : 18 ∉ as) (h5 : 12 ∉ as) : BoM l f P' :=
  ⟨⟨by rw [hf.2.1 _ h1]; exact h.1.1, h.1.2.1, h.1.2.2.1, fun i hi => by rw [hf.2.2.2.1 _ _ h2, hf.2.2.2.1 _ _ h3, hf.2.2.2.1 _ _ h4]; exact h.1.2.2.2 i hi⟩, fun k hk => by rw [hf.2.2.2.1 _ _ h5]; exact h.2 k hk⟩
theorem sq10 (a b : Int) : 10 * a * (10 * a) + 10 * b * (10 * b) = 100 * (a * a + b * b) := by
  have e : ∀ a : Int, 10 * a * (10 * a) = 100 * (a * a) := fun a => by rw [Int.mul_assoc, ← Int.mul_assoc a 10 a, Int.mul_comm a 10, Int.mul_assoc, ← Int.mul_assoc]; rfl
  rw [e, e]; omega
theorem M_starLength {d u v : Nat} {l : List SR} {f : Nat → Int} {x y : Int32} {P : PS} {R : List PS} {Q : Option AV → List PS → Prop} (hx : x = iI (u : Nat)) (hy : y = iI (v : Nat)) (hu : u < l.length) (hv : v < l.length) (hB : BoM l f P) (h : Q (some (vI (iI (lenS l u v : Nat)))) (P :: R)) : Tri 214 (d + 2) [vR 0 0 0, vI x, vI y] (P :: R) Q := by
  subst hx hy
  have hl := hB.1.2.1
  have su := hB.1.2.2.2 u hu
  have sv := hB.1.2.2.2 v hv
  have bu := hB.st hu
  have bv := hB.st hv
  refine enX12_starLength ?_
  unfold fX12_starLength_0
  simp (disch := omega) only [iI_in, iI_cl, Int.toNat_natCast]
  rw [su.1, sv.1, su.2.1, sv.2.1]
  simp (disch := omega) only [iI_lit, iI_sub, iI_mul]
  refine ⟨by omega, by omega, by omega, by omega, M_lengthOf rfl rfl (by omega) (by omega) ?_⟩
  dsimp only [hx1, rI]
  rw [sq10]
  have e : (100 * (((nthS l u).2.1 - (nthS l v).2.1) * ((nthS l u).2.1 - (nthS l v).2.1) + ((nthS l u).2.2.1 - (nthS l v).2.2.1) * ((nthS l u).2.2.1 - (nthS l v).2.2.1))).toNat = 100 * (dsq l u v).toNat := by
    have := (dsq_bd hB.1.2.2.1 hu hv).1
    unfold dsq at this ⊢
    omega
  rw [e]; exact h
def lengthS (l : List SR) (a b : Int) : Int := if (0 ≤ a ∧ a < l.length) ∧ 0 ≤ b ∧ b < l.length then (lenS l a.toNat b.toNat : Nat) else -1
theorem M_length {d : Nat} {a b : Int} {l : List SR} {f : Nat → Int} {P : PS} {R : List PS} {Q : Option AV → List PS → Prop} (ha : -2147483648 ≤ a ∧ a < 2147483648) (hb : -2147483648 ≤ b ∧ b < 2147483648) (hB : BoM l f P) (h : Q (some (vI (iI (lengthS l a b)))) (P :: R)) : Tri 218 (d + 3) [vR 0 0 0, vI (iI a), vI (iI b)] (P :: R) Q := by
  have hl := hB.1.2.1
  refine enX12_length ?_
  unfold fX12_length_0
  rw [hB.1.1]
  unfold lengthS at h
  refine M_isIn rfl rfl ha (by omega) ?_
  dsimp only [hx1, rI]
  rw [oI_dec]
  refine ⟨fun c => ?_, fun c => M_isIn rfl hB.1.1 hb (by omega) ?_⟩
  · rw [if_neg (fun q => c q.1)] at h; exact h
  have c' := Decidable.not_not.mp c
  dsimp only [hx1, rI]
  rw [oI_dec]
  refine ⟨fun c1 => ?_, fun c1 => ?_⟩
  · rw [if_neg (fun q => c1 q.2)] at h; exact h
  have c1' := Decidable.not_not.mp c1
  rw [if_pos ⟨c', c1'⟩] at h
  refine M_starLength (u := a.toNat) (v := b.toNat) (by congr 1; omega) (by congr 1; omega) (by omega) (by omega) hB ?_
  dsimp only [hx1, rI]
  exact h
theorem C_length {d k : Nat} {a b : Int} {l : List SR} {P0 P1 P2 P3 P4 P5 P6 P7 P8 P9 P10 P11 P12 : PS} {R : List PS} {Q : Option AV → List PS → Prop} (ha : -2147483648 ≤ a ∧ a < 2147483648) (hb : -2147483648 ≤ b ∧ b < 2147483648) (hk : gO P12 0 11 = some k) (hS : SsC k l P2) (hL : LnC k l P2) (h : Q (some (vI (iI (lengthS l a b)))) (P0 :: P1 :: P2 :: P3 :: P4 :: P5 :: P6 :: P7 :: P8 :: P9 :: P10 :: P11 :: P12 :: R)) : Tri 136 (d + 2) [vR 12 0 0, vI (iI a), vI (iI b)] (P0 :: P1 :: P2 :: P3 :: P4 :: P5 :: P6 :: P7 :: P8 :: P9 :: P10 :: P11 :: P12 :: R) Q := by
  refine enX11_length ?_
  unfold fX11_length_0
  unfold lengthS at h
  rw [hk]
  simp only [oM]
  refine C_has rfl ha hS ?_
  dsimp only [hx13, rI]
  rw [oI_dec, hk]
  refine ⟨fun c => ?_, fun c => ?_⟩
  · rw [if_neg (fun q => c q.1)] at h; exact h
  have c' := Decidable.not_not.mp c
  dsimp only
  refine C_has rfl hb hS ?_
  dsimp only [hx13, rI]
  rw [oI_dec, hk]
  refine ⟨fun c1 => ?_, fun c1 => ?_⟩
  · rw [if_neg (fun q => c1 q.2)] at h; exact h
  have c1' := Decidable.not_not.mp c1
  rw [if_pos ⟨c', c1'⟩] at h
  dsimp only
  refine C_lengthOf (u := a.toNat) (v := b.toNat) (by congr 1; omega) (by congr 1; omega) (by omega) (by omega) hS hL ?_
  dsimp only [hx13, rI]
  exact h
