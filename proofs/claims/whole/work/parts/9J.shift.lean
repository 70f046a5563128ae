/-! ===== SHIFT, the Model ===== -/
/-- the point of a picture that bears the star s -/
noncomputable def skS (y : SY) (z a k : Int) (s : Nat) (l : List SR) (f : Nat → Int) : Option Nat := if dcd (hasN y z a 0 k l f) = true then fsN (nmAt y z k l f a.toNat 0) s 6 0 else none
noncomputable def shiftS (y : SY) (z a b s v k : Int) (l : List SR) (f : Nat → Int) : Int :=
  if (0 ≤ s ∧ s < (l.length : Nat)) ∧ 0 ≤ v ∧ v ≤ 1 then
    match skS y z a k s.toNat l f, skS y z b k s.toNat l f with
    | some q, some r => if v = 0 then (dt (y.2.1 b.toNat) z (ptD y z k b.toNat r)).1 - (dt (y.2.1 a.toNat) z (ptD y z k a.toNat q)).1 else (dt (y.2.1 b.toNat) z (ptD y z k b.toNat r)).2.1 - (dt (y.2.1 a.toNat) z (ptD y z k a.toNat q)).2.1
    | _, _ => -1000000000000
  else -1000000000000
theorem skS_y {y : SY} {z a k : Int} {s q : Nat} {l : List SR} {f : Nat → Int} (h : hasN y z a 0 k l f) (h' : fsN (nmAt y z k l f a.toNat 0) s 6 0 = some q) : skS y z a k s l f = some q := by unfold skS; rw [if_pos (dcd_t.mpr h), h']
theorem skS_n {y : SY} {z a k : Int} {s : Nat} {l : List SR} {f : Nat → Int} (h : ¬ (hasN y z a 0 k l f ∧ fsN (nmAt y z k l f a.toNat 0) s 6 0 ≠ none)) : skS y z a k s l f = none := by
  unfold skS
  by_cases c : hasN y z a 0 k l f
  · rw [if_pos (dcd_t.mpr c)]
    exact Classical.byContradiction (fun g => h ⟨c, g⟩)
  · rw [if_neg (fun g => c (dcd_t.mp g))]
theorem M_shift {d w : Nat} {y : SY} {z t a b s v k : Int} {l : List SR} {f : Nat → Int} {P : PS} {R : List PS} {Q : Option AV → List PS → Prop} (ha : -2147483648 ≤ a ∧ a < 2147483648) (hb : -2147483648 ≤ b ∧ b < 2147483648) (hs : -2147483648 ≤ s ∧ s < 2147483648) (hv : -2147483648 ≤ v ∧ v < 2147483648) (hk : -2147483648 ≤ k ∧ k < 2147483648) (hS : StM y w z t P) (hB : BoM l f P) (hF : FOK f) (h : ∀ P', Fr ssI [] snA [] P P' → Q (some (vL (iL (shiftS y z a b s v k l f)))) (P' :: R)) : Tri 254 (d + 7) [vR 0 0 0, vI (iI a), vI (iI b), vI (iI s), vI (iI v), vI (iI k)] (P :: R) Q := by
  have hl := hB.1.2.1
  have gap : (-1000000000000 : Int64) = iL (-1000000000000) := rfl
  refine enX12_shift ?_
  unfold fX12_shift_0
  refine M_isIn (b := (l.length : Nat)) rfl hB.1.1 hs (by omega) ?_
  dsimp only [hx1, rI]
  have v0 : iI v < (0 : Int32) ↔ v < 0 := by rw [show (0 : Int32) = iI 0 from rfl]; exact iI_lt (by omega) (by omega) (by omega) (by omega)
  have v1 : (1 : Int32) < iI v ↔ 1 < v := by rw [show (1 : Int32) = iI 1 from rfl]; exact iI_lt (by omega) (by omega) (by omega) (by omega)
  have v2 : iI v = (0 : Int32) ↔ v = 0 := by rw [show (0 : Int32) = iI 0 from rfl]; exact iI_eq (by omega) (by omega) (by omega) (by omega)
  rw [oI_dec, v0, v1, v2, gap]
  unfold shiftS at h
  have no : ¬ ((0 ≤ s ∧ s < (l.length : Nat)) ∧ 0 ≤ v ∧ v ≤ 1) → Q (some (vL (iL (-1000000000000)))) (P :: R) := fun c => by
    have := h P Fr.rf
    rw [if_neg c] at this; exact this
  refine ⟨fun c => no (fun g => c g.1), fun c => ⟨fun c1 => no (by omega), fun c1 => ⟨fun c2 => no (by omega), fun c2 => ?_⟩⟩⟩
  have c' := Decidable.not_not.mp c
  rw [if_pos ⟨c', by omega, by omega⟩] at h
  have es : iI s = iI ((s.toNat : Nat) : Int) := congrArg iI (by omega)
  have hlt : s.toNat < l.length := by omega
  have hh : ∀ P', skS y z a k s.toNat l f = none ∨ skS y z b k s.toNat l f = none → Fr ssI [] snA [] P P' → Q (some (vL (iL (-1000000000000)))) (P' :: R) := fun P' g fr => by
    have := h P' fr
    rcases g with g | g
    · rw [g] at this; exact this
    · rw [g] at this
      cases hq : skS y z a k s.toNat l f with
      | none => rw [hq] at this; exact this
      | some q => rw [hq] at this; exact this
  refine M_seekStar (s := s.toNat) rfl es rfl ha hk hlt hS hB hF (fun q P1 hN f1 q1 x1 y1 fr1 => ?_) (fun P1 nn fr1 => ?_)
  · dsimp only [hx1, rI]
    refine ⟨fun _ => ?_, fun g => absurd g (by decide)⟩
    have S1 : StM y w z t P1 := hS.fr fr1 (by simp) (by simp) (by simp) (by simp) (by simp) (by simp) (by simp)
    have B1 : BoM l f P1 := hB.fr fr1 (by simp) (by simp) (by simp) (by simp) (by simp)
    refine M_seekStar (s := s.toNat) rfl es rfl hb hk hlt S1 B1 hF (fun r P2 hN2 f2 q2 x2 y2 fr2 => ?_) (fun P2 nn fr2 => ?_)
    · dsimp only [hx1, rI]
      refine ⟨fun _ => ?_, fun g => absurd g (by decide)⟩
      have this := h P2 (fr1.trs fr2)
      rw [skS_y hN f1, skS_y hN2 f2] at this
      have apa := cntS_lt hN.1
      have apb := cntS_lt hN2.1
      have Ka := (hS.2.2.2.2.2 a.toNat apa.2).2.1
      have Kb := (hS.2.2.2.2.2 b.toNat apb.2).2.1
      have da := dt_ok Ka.2.2.2.1 Ka.2.2.1.1 (ptD_lt q1)
      have db := dt_ok Kb.2.2.2.1 Kb.2.2.1.1 (ptD_lt q2)
      rw [x1, x2, y1, y2, iI_sub, iI_sub, iI_l (by omega) (by omega), iI_l (by omega) (by omega)]
      refine ⟨fun c3 => ?_, fun c3 => ?_⟩
      · dsimp only at this
        rw [if_neg c3] at this; exact this
      · dsimp only at this
        rw [if_pos c3] at this; exact this
    · dsimp only [hx1, rI]
      exact ⟨fun g => absurd rfl g, fun _ => hh P2 (Or.inr (skS_n nn)) (fr1.trs fr2)⟩
  · dsimp only [hx1, rI]
    exact ⟨fun g => absurd rfl g, fun _ => hh P1 (Or.inl (skS_n nn)) fr1⟩
