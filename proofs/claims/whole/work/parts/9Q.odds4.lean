theorem oddL_e {y : SY} {z k : Int} {l : List SR} {f : Nat → Int} {p i : Nat} (hl : l.length ≤ 32) (hi : i < (nmP y z k l f p).1.length) : oddL y z k l f p i = (l.length * (l.length - 1) / 2) ^ ((nmP y z k l f p).2 - 1) := by
  have hA : aP y z k p ≤ 6 ∧ aP y z k p ≤ nP y z k p := m6_le (nP y z k p)
  have nc := nmd_cnt (X := qX y z k f p) (Y := qY y z k f p) (l := l) (o := f 4) (A := aP y z k p) (i := i) hl hA.1 hi
  unfold oddL
  rw [(odL_pow 6).1]
  have : cnt (fun q => decide (nmAt y z k l f p i q ≠ 32)) 6 = (nmP y z k l f p).2 := nc.1
  rw [this]
theorem C_odds {d w kb : Nat} {y : SY} {X : BXt} {z t a i v k : Int} {l : List SR} {f : Nat → Int} {P0 P1 P2 P3 P4 P5 P6 P7 P8 P9 P10 P11 P12 : PS} {R : List PS} {Q : Option AV → List PS → Prop} (ha : -2147483648 ≤ a ∧ a < 2147483648) (hi : -2147483648 ≤ i ∧ i < 2147483648) (hv : -2147483648 ≤ v ∧ v < 2147483648) (hk : -2147483648 ≤ k ∧ k < 2147483648) (hsk : gO P12 0 11 = some kb) (hB : BoC kb l f P2) (hF : FOK f) (hY : SyK y w z t) (hS : StC 0 y z t P3 P6) (hC : CsC X y z l f P3 P6) (hI : InjP y P6) (h : ∀ P3' P8', StC 0 y z t P3' P6 → CsC X y z l f P3' P6 → gN P3' = gN P3 → frN8 P8 P8' → Q (some (vL (iL (oddsS y z a i v k l f)))) (P0 :: P1 :: P2 :: P3' :: P4 :: P5 :: P6 :: P7 :: P8' :: P9 :: P10 :: P11 :: P12 :: R)) : Tri 139 (d + 12) [vR 12 0 0, vI (iI a), vI (iI i), vI (iI v), vI (iI k)] (P0 :: P1 :: P2 :: P3 :: P4 :: P5 :: P6 :: P7 :: P8 :: P9 :: P10 :: P11 :: P12 :: R) Q := by
  have hl := hB.1.2.1
  have gap : (-1000000000000 : Int64) = iL (-1000000000000) := rfl
  have v0 : iI v = (0 : Int32) ↔ v = 0 := by rw [show (0 : Int32) = iI 0 from rfl]; exact iI_eq (by omega) (by omega) (by omega) (by omega)
  have v1 : iI v = (1 : Int32) ↔ v = 1 := by rw [show (1 : Int32) = iI 1 from rfl]; exact iI_eq (by omega) (by omega) (by omega) (by omega)
  refine enX11_odds ?_
  unfold fX11_odds_0
  unfold oddsS at h
  rw [gap, v0, v1]
  refine C_kn rfl rfl ha hk hsk hB hF hY hS hC hI (fun j P3' P8' ct hP hx nc S1 C1 n1 f8 => ?_) (fun ct => ?_)
  · dsimp only [hx13, rR]
    have hh := h P3' P8' S1 C1 n1 f8
    refine ⟨rfl, C_hasNaming rfl hi nc.1 ?_⟩
    dsimp only [hx13, rI]
    rw [oI_dec]
    refine ⟨fun c => ?_, fun c => ?_⟩
    · have c' := Decidable.not_not.mp c
      have hA : aP y z k a.toNat ≤ 6 ∧ aP y z k a.toNat ≤ nP y z k a.toNat := m6_le (nP y z k a.toNat)
      have lt : i.toNat < (nmP y z k l f a.toNat).1.length := by have := c'.2; change i < ((nmP y z k l f a.toNat).1.length : Nat) at this; omega
      have hN : hasN y z a i k l f := ⟨ct, c'.1, c'.2⟩
      have bd := odd_bd hl lt
      have ncc := nmd_cnt (X := qX y z k f a.toNat) (Y := qY y z k f a.toNat) (l := l) (o := f 4) (A := aP y z k a.toNat) (i := i.toNat) hl hA.1 lt
      refine C_oddsUpper (i := i.toNat) (congrArg iI (by omega)) hl hA.1 lt nc ?_
      dsimp only [hx13, rL]
      have hsk' : gO P12 0 11 = some kb := hsk
      rw [hsk']
      dsimp only [oM]
      refine C_pairs hB.1 ?_
      dsimp only [hx13, rL]
      refine C_oddsLower rfl nc.2.1 (by omega) ncc.2.2.1 ?_
      dsimp only [hx13, rL]
      have eL := oddL_e hl lt
      have eL' : (l.length * (l.length - 1) / 2) ^ ((nmS (qX y z k f a.toNat) (qY y z k f a.toNat) l (f 4) (aP y z k a.toNat)).2 - 1) = oddL y z k l f a.toNat i.toNat := eL.symm
      rw [eL']
      have eU : odU (fitN (qX y z k f a.toNat) (qY y z k f a.toNat) l (f 4)) (fun q => if q < aP y z k a.toNat then ((nmS (qX y z k f a.toNat) (qY y z k f a.toNat) l (f 4) (aP y z k a.toNat)).1.getD i.toNat (fun _ => 32)) q else 32) 6 = oddU y z k l f a.toNat i.toNat := rfl
      rw [eU]
      have g0 : Nat.gcd (oddU y z k l f a.toNat i.toNat) (oddL y z k l f a.toNat i.toNat) ≠ 0 := by have := Nat.gcd_pos_of_pos_right (oddU y z k l f a.toNat i.toNat) bd.2.2; omega
      have gl := Nat.gcd_le_right (oddU y z k l f a.toNat i.toNat) bd.2.2
      have ge : Int.gcd ((oddU y z k l f a.toNat i.toNat : Nat) : Int) ((oddL y z k l f a.toNat i.toNat : Nat) : Int) = Nat.gcd (oddU y z k l f a.toNat i.toNat) (oddL y z k l f a.toNat i.toNat) := rfl
      refine ⟨fun c0 => ?_, fun c0 => ⟨fun c1 => ?_, fun c1 => ?_⟩⟩
      · refine C_inLowestTerms (a := (oddU y z k l f a.toNat i.toNat : Nat)) (b := (oddL y z k l f a.toNat i.toNat : Nat)) rfl rfl (by omega) (by omega) (fun _ => ?_) (fun g => absurd g g0)
        dsimp only [hx13, rL]
        rw [ge, iL_div (by omega) (by omega) (by omega) (by omega), ← Int.natCast_ediv]
        rw [if_pos (dcd_t.mpr ⟨hN, by omega, by omega⟩), if_pos c0] at hh; exact hh
      · refine C_inLowestTerms (a := (oddU y z k l f a.toNat i.toNat : Nat)) (b := (oddL y z k l f a.toNat i.toNat : Nat)) rfl rfl (by omega) (by omega) (fun _ => ?_) (fun g => absurd g g0)
        dsimp only [hx13, rL]
        rw [ge, iL_div (by omega) (by omega) (by omega) (by omega), ← Int.natCast_ediv]
        rw [if_pos (dcd_t.mpr ⟨hN, by omega, by omega⟩), if_neg c0] at hh; exact hh
      · rw [if_neg (fun g => by have := (dcd_t.mp g).2; omega)] at hh; exact hh
    · rw [if_neg (fun g => c (dcd_t.mp g).1.2)] at hh; exact hh
  · dsimp only [hx13, rR]
    have hh := h P3 P8 hS hC rfl Fr.rf
    rw [if_neg (fun g => by have := (dcd_t.mp g).1.1; rw [ct] at this; exact absurd this (by decide))] at hh; exact hh
theorem C_toldOf {d kb j p : Nat} {y : SY} {z k : Int} {l : List SR} {f : Nat → Int} {P0 P1 P2 P3 P4 P5 P6 P7 P8 P9 P10 P11 P12 : PS} {R : List PS} {Q : Option AV → List PS → Prop} (hsk : gO P12 0 11 = some kb) (hB : BoC kb l f P2) (hF : FOK f) (nc : NcC j (qX y z k f p) (qY y z k f p) l (f 4) (aP y z k p) P3) (h : Q (some (vI (oI (dcd (telP y z k l f p))))) (P0 :: P1 :: P2 :: P3 :: P4 :: P5 :: P6 :: P7 :: P8 :: P9 :: P10 :: P11 :: P12 :: R)) : Tri 160 (d + 3) [vR 12 0 0, vR 3 j 0] (P0 :: P1 :: P2 :: P3 :: P4 :: P5 :: P6 :: P7 :: P8 :: P9 :: P10 :: P11 :: P12 :: R) Q := by
  have hl := hB.1.2.1
  have h5 := hF.2.2.2.2.2.1
  have lle : (nmP y z k l f p).1.length ≤ 200 := (nmF_le (qX y z k f p) (qY y z k f p) l (f 4) (aP y z k p) (aP y z k p)).1
  have hA : aP y z k p ≤ 6 ∧ aP y z k p ≤ nP y z k p := m6_le (nP y z k p)
  have n1 : gI P3 j 11 = iI ((nmP y z k l f p).1.length : Nat) := nc.1.1
  refine enX11_toldOf ?_
  unfold fX11_toldOf_0
  have no : ¬ telP y z k l f p → Q (some (vI 0)) (P0 :: P1 :: P2 :: P3 :: P4 :: P5 :: P6 :: P7 :: P8 :: P9 :: P10 :: P11 :: P12 :: R) := fun c => by
    rw [dcd_f.mpr c] at h; exact h
  have z1 : (gI P3 j 11 = (1 : Int32)) ↔ (nmP y z k l f p).1.length = 1 := by
    rw [n1, show (1 : Int32) = iI 1 from rfl, iI_eq (by omega) (by omega) (by omega) (by omega)]; omega
  rw [z1]
  refine ⟨fun c => ?_, fun c => no (fun g => c g.1)⟩
  have lt : 0 < (nmP y z k l f p).1.length := by omega
  have bd := odd_bd hl lt
  have ncc := nmd_cnt (X := qX y z k f p) (Y := qY y z k f p) (l := l) (o := f 4) (A := aP y z k p) (i := 0) hl hA.1 lt
  refine C_oddsUpper (i := 0) rfl hl hA.1 lt nc ?_
  dsimp only [hx13, rL]
  have hsk' : gO P12 0 11 = some kb := hsk
  rw [hsk']
  dsimp only [oM]
  refine C_pairs hB.1 ?_
  dsimp only [hx13, rL]
  refine C_oddsLower rfl nc.2.1 (by omega) ncc.2.2.1 ?_
  dsimp only [hx13, rL]
  have eL := oddL_e hl lt
  have eL' : (l.length * (l.length - 1) / 2) ^ ((nmS (qX y z k f p) (qY y z k f p) l (f 4) (aP y z k p)).2 - 1) = oddL y z k l f p 0 := eL.symm
  have eU : odU (fitN (qX y z k f p) (qY y z k f p) l (f 4)) (fun q => if q < aP y z k p then ((nmS (qX y z k f p) (qY y z k f p) l (f 4) (aP y z k p)).1.getD 0 (fun _ => 32)) q else 32) 6 = oddU y z k l f p 0 := rfl
  have e5 : ((oddU y z k l f p 0 : Nat) : Int) * f 5 = ((oddU y z k l f p 0 * (f 5).toNat : Nat) : Int) := by
    rw [Int.natCast_mul, show (((f 5).toNat : Nat) : Int) = f 5 by omega]
  have m1 : oddU y z k l f p 0 * (f 5).toNat ≤ 31000000000000 * 9999 := Nat.mul_le_mul (by omega) (by omega)
  rw [eL', eU, show gI P2 kb 11 = iI (f 5) from hB.2.1 5 (by omega), iI_l (by omega) (by omega), iL_mul, e5, lcmp_gt, iL_lt (by omega) (by omega) (by omega) (by omega)]
  refine ⟨fun c1 => no (fun g => by have := g.2; omega), fun c1 => ?_⟩
  rw [dcd_t.mpr ⟨c, by omega⟩] at h; exact h
theorem C_tell {d w kb : Nat} {y : SY} {X : BXt} {z t a k : Int} {l : List SR} {f : Nat → Int} {P0 P1 P2 P3 P4 P5 P6 P7 P8 P9 P10 P11 P12 : PS} {R : List PS} {Q : Option AV → List PS → Prop} (ha : -2147483648 ≤ a ∧ a < 2147483648) (hk : -2147483648 ≤ k ∧ k < 2147483648) (hsk : gO P12 0 11 = some kb) (hB : BoC kb l f P2) (hF : FOK f) (hY : SyK y w z t) (hS : StC 0 y z t P3 P6) (hC : CsC X y z l f P3 P6) (hI : InjP y P6) (h : ∀ P3' P8', StC 0 y z t P3' P6 → CsC X y z l f P3' P6 → gN P3' = gN P3 → frN8 P8 P8' → Q (some (vI (iI (tellS y z a k l f)))) (P0 :: P1 :: P2 :: P3' :: P4 :: P5 :: P6 :: P7 :: P8' :: P9 :: P10 :: P11 :: P12 :: R)) : Tri 140 (d + 12) [vR 12 0 0, vI (iI a), vI (iI k)] (P0 :: P1 :: P2 :: P3 :: P4 :: P5 :: P6 :: P7 :: P8 :: P9 :: P10 :: P11 :: P12 :: R) Q := by
  refine enX11_told ?_
  unfold fX11_told_0
  unfold tellS at h
  refine C_kn rfl rfl ha hk hsk hB hF hY hS hC hI (fun j P3' P8' ct hP hx nc S1 C1 n1 f8 => ?_) (fun ct => ?_)
  · dsimp only [hx13, rR]
    have hh := h P3' P8' S1 C1 n1 f8
    refine ⟨rfl, C_toldOf hsk hB hF nc ?_⟩
    dsimp only [hx13, rI]
    rw [if_pos ct] at hh
    revert hh
    cases dcd (telP y z k l f a.toNat) <;> exact fun hh => hh
  · dsimp only [hx13, rR]
    have hh := h P3 P8 hS hC rfl Fr.rf
    rw [ct] at hh; exact hh
