/-! ===== UNTELL, both sides ===== -/
def untS (a : Int) (c : Nat) (u : Nat → Int) : Prop := 0 ≤ a ∧ a < c ∧ u a.toNat = -1
theorem M_untell {d c : Nat} {a t : Int} {u : Nat → Int} {P : PS} {R : List PS} {Q : Option AV → List PS → Prop} (ha : -2147483648 ≤ a) (ha' : a < 2147483648) (hc : gI P 0 28 = iI c) (hc' : c ≤ 12) (ht : gI P 0 29 = iI t) (hu : ∀ i, i < c → gA P 0 26 i = iI (u i) ∧ -1 ≤ u i ∧ u i ≤ 100000) (hy : untS a c u → Q (some (vI (iI 1))) (sA P 0 26 a.toNat (iI t) :: R)) (hn : ¬ untS a c u → Q (some (vI (iI 0))) (P :: R)) : Tri 196 d [vR 0 0 0, vI (iI a)] (P :: R) Q := by
  refine enX12_untell ?_
  unfold fX12_untell_0
  unfold untS at hy hn
  rw [hc, ht, show (0 : Int32) = iI 0 from rfl, iI_lt (by omega) (by omega) (by omega) (by omega), iI_le (by omega) (by omega) (by omega) (by omega), iI_in (by omega) (by omega), iI_cl (by omega) (by omega)]
  refine ⟨fun c => ⟨Or.inl rfl, hn (by omega)⟩, fun c1 => ⟨fun c2 => ⟨Or.inl rfl, hn (by omega)⟩, fun c2 => ⟨by omega, ?_⟩⟩⟩
  have h := hu a.toNat (by omega)
  rw [h.1, iI_lt (by omega) (by omega) (by omega) (by omega)]
  exact ⟨fun c3 => ⟨by omega, Or.inr rfl, hy ⟨by omega, by omega, by omega⟩⟩, fun c3 => ⟨Or.inl rfl, hn (fun g => by have := g.2.2; omega)⟩⟩
theorem C_drop {d j c : Nat} {a t : Int} {u : Nat → Int} {P0 P1 P2 P3 P4 P5 P : PS} {R : List PS} {Q : Option AV → List PS → Prop} (ha : -2147483648 ≤ a) (ha' : a < 2147483648) (hc : gI P j 4 = iI c) (hc' : c ≤ 12) (ht : gI P j 5 = iI t) (hu : ∀ i, i < c → gA P j 2 i = iI (u i) ∧ -1 ≤ u i ∧ u i ≤ 100000) (hy : untS a c u → Q (some (vI (iI 1))) (P0 :: P1 :: P2 :: P3 :: P4 :: P5 :: sA P j 2 a.toNat (iI t) :: R)) (hn : ¬ untS a c u → Q (some (vI (iI 0))) (P0 :: P1 :: P2 :: P3 :: P4 :: P5 :: P :: R)) : Tri 78 d [vR 6 j 0, vI (iI a)] (P0 :: P1 :: P2 :: P3 :: P4 :: P5 :: P :: R) Q := by
  refine enX7_drop ?_
  unfold fX7_drop_0
  unfold untS at hy hn
  rw [hc, ht, show (0 : Int32) = iI 0 from rfl, show (12 : Int32) = iI 12 from rfl, show (-1 : Int32) = iI (-1) from rfl, iI_lt (by omega) (by omega) (by omega) (by omega), iI_le (by omega) (by omega) (by omega) (by omega), iI_le (by omega) (by omega) (by omega) (by omega), iI_in (by omega) (by omega), iI_cl (by omega) (by omega)]
  refine ⟨fun c => ⟨Or.inl rfl, hn (by omega)⟩, fun c1 => ⟨fun c2 => ⟨Or.inl rfl, hn (by omega)⟩, fun c2 => ⟨fun c3 => absurd c3 (by omega), fun _ => ⟨by omega, ?_⟩⟩⟩⟩
  have h := hu a.toNat (by omega)
  rw [h.1, iI_eq (by omega) (by omega) (by omega) (by omega)]
  exact ⟨fun c3 => ⟨by omega, Or.inr rfl, hy ⟨by omega, by omega, by omega⟩⟩, fun c3 => ⟨Or.inl rfl, hn (fun g => by have := g.2.2; omega)⟩⟩
theorem C_untell {d c : Nat} {a t : Int} {u : Nat → Int} {P0 P1 P2 P3 P4 P5 P P7 P8 P9 P10 P11 P12 : PS} {R : List PS} {Q : Option AV → List PS → Prop} (ha : -2147483648 ≤ a) (ha' : a < 2147483648) (hc : gI P 0 4 = iI c) (hc' : c ≤ 12) (ht : gI P 0 5 = iI t) (hu : ∀ i, i < c → gA P 0 2 i = iI (u i) ∧ -1 ≤ u i ∧ u i ≤ 100000) (hy : untS a c u → Q (some (vI (iI 1))) (P0 :: P1 :: P2 :: P3 :: P4 :: P5 :: sA P 0 2 a.toNat (iI t) :: P7 :: P8 :: P9 :: P10 :: P11 :: P12 :: R)) (hn : ¬ untS a c u → Q (some (vI (iI 0))) (P0 :: P1 :: P2 :: P3 :: P4 :: P5 :: P :: P7 :: P8 :: P9 :: P10 :: P11 :: P12 :: R)) : Tri 130 (d + 1) [vR 12 0 0, vI (iI a)] (P0 :: P1 :: P2 :: P3 :: P4 :: P5 :: P :: P7 :: P8 :: P9 :: P10 :: P11 :: P12 :: R) Q := by
  refine enX11_untell ?_
  unfold fX11_untell_0
  exact C_drop ha ha' hc hc' ht hu (fun g => ⟨Or.inr rfl, hy g⟩) (fun g => ⟨Or.inl rfl, hn g⟩)
