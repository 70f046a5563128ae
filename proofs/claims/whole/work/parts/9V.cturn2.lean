theorem C_findTurn {d w kb : Nat} {y : SY} {X : BXt} {z t a i k : Int} {l : List SR} {f : Nat → Int} {x1 x2 x3 : Int32} {P0 P1 P2 P3 P4 P5 P6 P7 P8 P9 P10 P11 P12 : PS} {R : List PS} {Q : Option AV → List PS → Prop} (e1 : x1 = iI a) (e2 : x2 = iI i) (e3 : x3 = iI k) (ha : -2147483648 ≤ a ∧ a < 2147483648) (hi : -2147483648 ≤ i ∧ i < 2147483648) (hk : -2147483648 ≤ k ∧ k < 2147483648) (hsk : gO P12 0 11 = some kb) (hB : BoC kb l f P2) (hF : FOK f) (hY : SyK y w z t) (hS : StC 0 y z t P3 P6) (hC : CsC X y z l f P3 P6) (hI : InjP y P6) (hy : ∀ P3' P7' P8', hasN y z a i k l f → U1 (nmAt y z k l f a.toNat i.toNat) (qX y z k f a.toNat) (qY y z k f a.toNat) (oV l f (nmAt y z k l f a.toNat i.toNat)) (oW l f (nmAt y z k l f a.toNat i.toNat)) 6 P7' → U2 (nmAt y z k l f a.toNat i.toNat) (qX y z k f a.toNat) (qY y z k f a.toNat) (oV l f (nmAt y z k l f a.toNat i.toNat)) (oW l f (nmAt y z k l f a.toNat i.toNat)) 6 P7' → LtK a.toNat w z (y.2.1 a.toNat) → StC 0 y z t P3' P6 → CsC X y z l f P3' P6 → gN P3' = gN P3 → Fr [] cuL [] [] P7 P7' → frN8 P8 P8' → Q (some (vI 1)) (P0 :: P1 :: P2 :: P3' :: P4 :: P5 :: P6 :: P7' :: P8' :: P9 :: P10 :: P11 :: P12 :: R)) (hn : ∀ P3' P8', ¬ hasN y z a i k l f → StC 0 y z t P3' P6 → CsC X y z l f P3' P6 → gN P3' = gN P3 → frN8 P8 P8' → Q (some (vI 0)) (P0 :: P1 :: P2 :: P3' :: P4 :: P5 :: P6 :: P7 :: P8' :: P9 :: P10 :: P11 :: P12 :: R)) : Tri 161 (d + 12) [vR 12 0 0, vI x1, vI x2, vI x3] (P0 :: P1 :: P2 :: P3 :: P4 :: P5 :: P6 :: P7 :: P8 :: P9 :: P10 :: P11 :: P12 :: R) Q := by
  subst e1 e2 e3
  refine enX11_findTurn ?_
  unfold fX11_findTurn_0
  refine C_kn rfl rfl ha hk hsk hB hF hY hS hC hI (fun j P3' P8' ct hP hx nc S1 C1 n1 f8 => ?_) (fun ct => ?_)
  · dsimp only [hx13, rR]
    refine ⟨rfl, C_hasNaming rfl hi nc.1 ?_⟩
    dsimp only [hx13, rI]
    rw [oI_dec]
    have hK := (hY.2.2 a.toNat (cntS_lt ct).2).1
    refine ⟨fun c => ?_, fun c => ⟨Or.inl rfl, hn P3' P8' (fun g => c g.2) S1 C1 n1 f8⟩⟩
    have c' := Decidable.not_not.mp c
    have hN : hasN y z a i k l f := ⟨ct, c'.1, c'.2⟩
    have lt : i.toNat < (nmP y z k l f a.toNat).1.length := by have := hN.2; omega
    have hsk' : gO P12 0 11 = some kb := hsk
    rw [hsk']
    dsimp only [oM]
    refine C_find (i := i.toNat) (congrArg iI (by omega)) hB hF hK hP hx nc lt (fun P7' u1 u2 f7 => ?_)
    dsimp only [hx13, rV]
    exact ⟨Or.inr rfl, hy P3' P7' P8' hN u1 u2 hK S1 C1 n1 f7 f8⟩
  · dsimp only [hx13, rR]
    exact ⟨Or.inl rfl, hn P3 P8 (fun g => by have := g.1; rw [ct] at this; exact absurd this (by decide)) hS hC rfl Fr.rf⟩
theorem C_turn {d w kb : Nat} {y : SY} {X : BXt} {z t a i v k : Int} {l : List SR} {f : Nat → Int} {P0 P1 P2 P3 P4 P5 P6 P7 P8 P9 P10 P11 P12 : PS} {R : List PS} {Q : Option AV → List PS → Prop} (ha : -2147483648 ≤ a ∧ a < 2147483648) (hi : -2147483648 ≤ i ∧ i < 2147483648) (hv : -2147483648 ≤ v ∧ v < 2147483648) (hk : -2147483648 ≤ k ∧ k < 2147483648) (hsk : gO P12 0 11 = some kb) (hB : BoC kb l f P2) (hF : FOK f) (hY : SyK y w z t) (hS : StC 0 y z t P3 P6) (hC : CsC X y z l f P3 P6) (hI : InjP y P6) (h : ∀ P3' P7' P8', StC 0 y z t P3' P6 → CsC X y z l f P3' P6 → gN P3' = gN P3 → Fr [] cuL [] [] P7 P7' → frN8 P8 P8' → Q (some (vL (turnS y z a i v k l f))) (P0 :: P1 :: P2 :: P3' :: P4 :: P5 :: P6 :: P7' :: P8' :: P9 :: P10 :: P11 :: P12 :: R)) : Tri 141 (d + 13) [vR 12 0 0, vI (iI a), vI (iI i), vI (iI v), vI (iI k)] (P0 :: P1 :: P2 :: P3 :: P4 :: P5 :: P6 :: P7 :: P8 :: P9 :: P10 :: P11 :: P12 :: R) Q := by
  have hl := hB.1.2.1
  have gap : (-1000000000000 : Int64) = iL (-1000000000000) := rfl
  have v0 : iI v = (0 : Int32) ↔ v = 0 := by rw [show (0 : Int32) = iI 0 from rfl]; exact iI_eq (by omega) (by omega) (by omega) (by omega)
  have v1 : iI v = (1 : Int32) ↔ v = 1 := by rw [show (1 : Int32) = iI 1 from rfl]; exact iI_eq (by omega) (by omega) (by omega) (by omega)
  refine enX11_turn ?_
  unfold fX11_turn_0
  unfold turnS at h
  rw [gap, v0, v1]
  refine C_findTurn rfl rfl rfl ha hi hk hsk hB hF hY hS hC hI (fun P3' P7' P8' hN u1 u2 hK S1 C1 n1 f7 f8 => ?_) (fun P3' P8' hN S1 C1 n1 f8 => ?_)
  · dsimp only [hx13, rI]
    have hh := h P3' P7' P8' S1 C1 n1 f7 f8
    have i0 := hN.2
    have bd := tu_bd hK hF hl hB.1.2.2.1 (show i.toNat < (nmP y z k l f a.toNat).1.length by omega)
    have eC : gL P7' 0 1 = iL (tuC y z k l f a.toNat i.toNat) := u2.2.1
    have eS : gL P7' 0 2 = iL (tuS y z k l f a.toNat i.toNat) := u2.2.2
    rw [eC, eS]
    refine ⟨fun _ => ⟨fun c0 => ?_, fun c0 => ⟨fun c1 => ?_, fun c1 => ?_⟩⟩, fun g => absurd g (by decide)⟩
    · rw [if_pos (dcd_t.mpr ⟨hN, by omega, by omega⟩)] at hh
      refine C_inLowestTerms (a := tuC y z k l f a.toNat i.toNat) (b := tuS y z k l f a.toNat i.toNat) rfl rfl (by omega) (by omega) (fun g0 => ?_) (fun g0 => ?_)
      · dsimp only [hx13, rL]
        rw [if_neg g0, if_pos c0] at hh; exact hh
      · dsimp only [hx13, rL]
        rw [if_pos g0] at hh
        rw [(Int.gcd_eq_zero_iff.mp g0).1]; exact hh
    · rw [if_pos (dcd_t.mpr ⟨hN, by omega, by omega⟩)] at hh
      refine C_inLowestTerms (a := tuC y z k l f a.toNat i.toNat) (b := tuS y z k l f a.toNat i.toNat) rfl rfl (by omega) (by omega) (fun g0 => ?_) (fun g0 => ?_)
      · dsimp only [hx13, rL]
        rw [if_neg g0, if_neg c0] at hh; exact hh
      · dsimp only [hx13, rL]
        rw [if_pos g0] at hh
        rw [(Int.gcd_eq_zero_iff.mp g0).2]; exact hh
    · rw [if_neg (fun g => by have := (dcd_t.mp g).2; omega)] at hh; exact hh
  · dsimp only [hx13, rI]
    have hh := h P3' P7 P8' S1 C1 n1 Fr.rf f8
    rw [if_neg (fun g => hN (dcd_t.mp g).1)] at hh
    exact ⟨fun g => absurd rfl g, fun _ => hh⟩
theorem C_look {d w kb : Nat} {y : SY} {X : BXt} {z t a i v u k : Int} {l : List SR} {f : Nat → Int} {P0 P1 P2 P3 P4 P5 P6 P7 P8 P9 P10 P11 P12 : PS} {R : List PS} {Q : Option AV → List PS → Prop} (ha : -2147483648 ≤ a ∧ a < 2147483648) (hi : -2147483648 ≤ i ∧ i < 2147483648) (hv : -2147483648 ≤ v ∧ v < 2147483648) (hu : -2147483648 ≤ u ∧ u < 2147483648) (hk : -2147483648 ≤ k ∧ k < 2147483648) (hsk : gO P12 0 11 = some kb) (hB : BoC kb l f P2) (hF : FOK f) (hY : SyK y w z t) (hS : StC 0 y z t P3 P6) (hC : CsC X y z l f P3 P6) (hI : InjP y P6) (h : ∀ P3' P7' P8', StC 0 y z t P3' P6 → CsC X y z l f P3' P6 → gN P3' = gN P3 → Fr [] cuL [] [] P7 P7' → frN8 P8 P8' → Q (some (vL (lookS y z a i v u k l f))) (P0 :: P1 :: P2 :: P3' :: P4 :: P5 :: P6 :: P7' :: P8' :: P9 :: P10 :: P11 :: P12 :: R)) : Tri 142 (d + 13) [vR 12 0 0, vI (iI a), vI (iI i), vI (iI v), vI (iI u), vI (iI k)] (P0 :: P1 :: P2 :: P3 :: P4 :: P5 :: P6 :: P7 :: P8 :: P9 :: P10 :: P11 :: P12 :: R) Q := by
  have hl := hB.1.2.1
  have gap : (-1000000000000 : Int64) = iL (-1000000000000) := rfl
  have v0 : iI v < (0 : Int32) ↔ v < 0 := by rw [show (0 : Int32) = iI 0 from rfl]; exact iI_lt (by omega) (by omega) (by omega) (by omega)
  have v1 : (1 : Int32) < iI v ↔ 1 < v := by rw [show (1 : Int32) = iI 1 from rfl]; exact iI_lt (by omega) (by omega) (by omega) (by omega)
  have v2 : iI v = (0 : Int32) ↔ v = 0 := by rw [show (0 : Int32) = iI 0 from rfl]; exact iI_eq (by omega) (by omega) (by omega) (by omega)
  have u0 : iI u = (0 : Int32) ↔ u = 0 := by rw [show (0 : Int32) = iI 0 from rfl]; exact iI_eq (by omega) (by omega) (by omega) (by omega)
  have u1' : iI u = (1 : Int32) ↔ u = 1 := by rw [show (1 : Int32) = iI 1 from rfl]; exact iI_eq (by omega) (by omega) (by omega) (by omega)
  refine enX11_look ?_
  unfold fX11_look_0
  unfold lookS at h
  rw [gap, v0, v1, v2, u0, u1']
  have no : ∀ P3' P7' P8', ¬ (hasN y z a i k l f ∧ (0 ≤ v ∧ v ≤ 1) ∧ (0 ≤ u ∧ u ≤ 1) ∧ tuA y z k l f a.toNat i.toNat ≠ 0) → StC 0 y z t P3' P6 → CsC X y z l f P3' P6 → gN P3' = gN P3 → Fr [] cuL [] [] P7 P7' → frN8 P8 P8' → Q (some (vL (iL (-1000000000000)))) (P0 :: P1 :: P2 :: P3' :: P4 :: P5 :: P6 :: P7' :: P8' :: P9 :: P10 :: P11 :: P12 :: R) := fun P3' P7' P8' c s1 s2 s3 s4 s5 => by
    have := h P3' P7' P8' s1 s2 s3 s4 s5
    rw [if_neg (fun g => c (dcd_t.mp g))] at this; exact this
  refine ⟨fun c => no P3 P7 P8 (fun g => by have := g.2; omega) hS hC rfl Fr.rf Fr.rf, fun c => ⟨fun c1 => no P3 P7 P8 (fun g => by have := g.2; omega) hS hC rfl Fr.rf Fr.rf, fun c1 => ?_⟩⟩
  refine C_findTurn rfl rfl rfl ha hi hk hsk hB hF hY hS hC hI (fun P3' P7' P8' hN u1 u2 hK S1 C1 n1 f7 f8 => ?_) (fun P3' P8' hN S1 C1 n1 f8 => ?_)
  · dsimp only [hx13, rI]
    have i0 := hN.2
    have lt : i.toNat < (nmP y z k l f a.toNat).1.length := by omega
    have bd := tu_bd hK hF hl hB.1.2.2.1 lt
    have lb := lk_bd (v := v) hK hF hl hB.1.2.2.1 lt
    have f0 := hF.1
    have f1 := hF.2.1
    have eA : gL P7' 0 0 = iL (tuA y z k l f a.toNat i.toNat) := u2.1
    have eC : gL P7' 0 1 = iL (tuC y z k l f a.toNat i.toNat) := u2.2.1
    have eS : gL P7' 0 2 = iL (tuS y z k l f a.toNat i.toNat) := u2.2.2
    have eX : gL P7' 0 4 = iL (tuX y z k l f a.toNat i.toNat) := u1.1
    have eY : gL P7' 0 5 = iL (tuY y z k l f a.toNat i.toNat) := u1.2.1
    have eV : gL P7' 0 6 = iL (tuV y z k l f a.toNat i.toNat) := u1.2.2.1
    have eW : gL P7' 0 7 = iL (tuW y z k l f a.toNat i.toNat) := u1.2.2.2.1
    have eN : gL P7' 0 3 = iL (tuN y z k l f a.toNat i.toNat) := u1.2.2.2.2
    have hsk' : gO P12 0 11 = some kb := hsk
    rw [hsk', eA, lcmp_eq, show (0 : Int64) = iL 0 from rfl, iL_eq (by omega) (by omega) (by omega) (by omega)]
    refine ⟨fun g => absurd g (by decide), fun _ => ⟨fun a0 => ?_, fun a0 => no P3' P7' P8' (fun g => g.2.2.2 a0) S1 C1 n1 f7 f8⟩⟩
    dsimp only [oM]
    rw [show gI P2 kb 6 = iI (f 0) from hB.2.1 0 (by omega), show gI P2 kb 7 = iI (f 1) from hB.2.1 1 (by omega), iI_l (by omega) (by omega), iI_l (by omega) (by omega), show (5 : Int64) = iL 5 from rfl, iL_mul, iL_mul]
    have cm : tuN y z k l f a.toNat i.toNat * (5 * f 0 * f 1) = 5 * f 0 * f 1 * tuN y z k l f a.toNat i.toNat := Int.mul_comm _ _
    have cl : tuN y z k l f a.toNat i.toNat * tuA y z k l f a.toNat i.toNat = lkL y z k l f a.toNat i.toNat := Int.mul_comm _ _
    have l0 : Int.gcd (lkU y z k v l f a.toNat i.toNat) (lkL y z k l f a.toNat i.toNat) ≠ 0 := fun g => by
      have := (Int.gcd_eq_zero_iff.mp g).2
      unfold lkL at this
      exact Int.mul_ne_zero a0 (show tuN y z k l f a.toNat i.toNat ≠ 0 by omega) this
    have hh := h P3' P7' P8' S1 C1 n1 f7 f8
    refine ⟨fun c4 => ?_, fun c4 => ?_⟩
    · refine enX10_lookUpperY ?_
      unfold fX10_lookUpperY_0
      dsimp only [hx13, rL]
      refine enX10_lookLower ?_
      unfold fX10_lookLower_0
      dsimp only [hx13, rL]
      rw [eA, eC, eS, eX, eY, eW, eN]
      simp only [iL_mul, iL_sub, iL_add]
      have hU : lkU y z k v l f a.toNat i.toNat = tuW y z k l f a.toNat i.toNat * tuA y z k l f a.toNat i.toNat + tuS y z k l f a.toNat i.toNat * (tuN y z k l f a.toNat i.toNat * (5 * f 0 * f 1) - tuX y z k l f a.toNat i.toNat) + tuC y z k l f a.toNat i.toNat * (tuN y z k l f a.toNat i.toNat * (5 * f 0 * f 1) - tuY y z k l f a.toNat i.toNat) := by unfold lkU; rw [if_neg c4, cm]
      rw [← hU, cl]
      refine ⟨fun c5 => ?_, fun c5 => ⟨fun c6 => ?_, fun c6 => no P3' P7' P8' (fun g => by have := g.2.2.1; omega) S1 C1 n1 f7 f8⟩⟩
      · refine C_inLowestTerms rfl rfl lb.1 lb.2 (fun _ => ?_) (fun g => absurd g l0)
        dsimp only [hx13, rL]
        rw [if_pos (dcd_t.mpr ⟨hN, by omega, by omega, a0⟩), if_pos c5] at hh; exact hh
      · refine C_inLowestTerms rfl rfl lb.1 lb.2 (fun _ => ?_) (fun g => absurd g l0)
        dsimp only [hx13, rL]
        rw [if_pos (dcd_t.mpr ⟨hN, by omega, by omega, a0⟩), if_neg c5] at hh; exact hh
    · refine enX10_lookUpperX ?_
      unfold fX10_lookUpperX_0
      dsimp only [hx13, rL]
      refine enX10_lookLower ?_
      unfold fX10_lookLower_0
      dsimp only [hx13, rL]
      rw [eA, eC, eS, eX, eY, eV, eN]
      simp only [iL_mul, iL_sub, iL_add]
      have hU : lkU y z k v l f a.toNat i.toNat = tuV y z k l f a.toNat i.toNat * tuA y z k l f a.toNat i.toNat + tuC y z k l f a.toNat i.toNat * (tuN y z k l f a.toNat i.toNat * (5 * f 0 * f 1) - tuX y z k l f a.toNat i.toNat) - tuS y z k l f a.toNat i.toNat * (tuN y z k l f a.toNat i.toNat * (5 * f 0 * f 1) - tuY y z k l f a.toNat i.toNat) := by unfold lkU; rw [if_pos c4, cm]
      rw [← hU, cl]
      refine ⟨fun c5 => ?_, fun c5 => ⟨fun c6 => ?_, fun c6 => no P3' P7' P8' (fun g => by have := g.2.2.1; omega) S1 C1 n1 f7 f8⟩⟩
      · refine C_inLowestTerms rfl rfl lb.1 lb.2 (fun _ => ?_) (fun g => absurd g l0)
        dsimp only [hx13, rL]
        rw [if_pos (dcd_t.mpr ⟨hN, by omega, by omega, a0⟩), if_pos c5] at hh; exact hh
      · refine C_inLowestTerms rfl rfl lb.1 lb.2 (fun _ => ?_) (fun g => absurd g l0)
        dsimp only [hx13, rL]
        rw [if_pos (dcd_t.mpr ⟨hN, by omega, by omega, a0⟩), if_neg c5] at hh; exact hh
  · dsimp only [hx13, rI]
    exact ⟨fun _ => no P3' P7 P8' (fun g => hN g.1) S1 C1 n1 Fr.rf f8, fun g => absurd rfl g⟩
theorem C_stretchOr {d p i w : Nat} {y : SY} {z k : Int} {l : List SR} {f : Nat → Int} {n : Int64} {P0 P1 P2 P3 P4 P5 P6 P7 : PS} {R : List PS} {Q : Option AV → List PS → Prop} (hK : LtK p w z (y.2.1 p)) (hF : FOK f) (hl : l.length ≤ 32) (hs : ∀ s ∈ l, StOK s) (hi : i < (nmP y z k l f p).1.length) (u2 : U2 (nmAt y z k l f p i) (qX y z k f p) (qY y z k f p) (oV l f (nmAt y z k l f p i)) (oW l f (nmAt y z k l f p i)) 6 P7) (h : Q (some (vL (strS n y z k l f p i))) (P0 :: P1 :: P2 :: P3 :: P4 :: P5 :: P6 :: P7 :: R)) : Tri 122 (d + 1) [vR 7 0 0, vL n] (P0 :: P1 :: P2 :: P3 :: P4 :: P5 :: P6 :: P7 :: R) Q := by
  have bd := tu_bd hK hF hl hs hi
  refine enX10_stretchOr ?_
  unfold fX10_stretchOr_0
  unfold strS at h
  have eA : gL P7 0 0 = iL (tuA y z k l f p i) := u2.1
  have eC : gL P7 0 1 = iL (tuC y z k l f p i) := u2.2.1
  have eS : gL P7 0 2 = iL (tuS y z k l f p i) := u2.2.2
  have ss := sq_sum bd.2.2.1 bd.2.2.2.1
  rw [eA, eC, eS, lcmp_eq, show (0 : Int64) = iL 0 from rfl, iL_eq (by omega) (by omega) (by omega) (by omega)]
  simp only [iL_mul, iL_add]
  refine ⟨fun a0 => ?_, fun a0 => ?_⟩
  · rw [if_neg a0] at h
    refine C_root (congrArg iL ss.2.symm) (by omega) ?_
    dsimp only [hx8, rL]
    rw [eA, iL_eq (by omega) (by omega) (by omega) (by omega)]
    exact ⟨a0, h⟩
  · rw [if_pos a0] at h; exact h
theorem C_stretch {d w kb : Nat} {y : SY} {X : BXt} {z t a i k : Int} {l : List SR} {f : Nat → Int} {P0 P1 P2 P3 P4 P5 P6 P7 P8 P9 P10 P11 P12 : PS} {R : List PS} {Q : Option AV → List PS → Prop} (ha : -2147483648 ≤ a ∧ a < 2147483648) (hi : -2147483648 ≤ i ∧ i < 2147483648) (hk : -2147483648 ≤ k ∧ k < 2147483648) (hsk : gO P12 0 11 = some kb) (hB : BoC kb l f P2) (hF : FOK f) (hY : SyK y w z t) (hS : StC 0 y z t P3 P6) (hC : CsC X y z l f P3 P6) (hI : InjP y P6) (h : ∀ P3' P7' P8', StC 0 y z t P3' P6 → CsC X y z l f P3' P6 → gN P3' = gN P3 → Fr [] cuL [] [] P7 P7' → frN8 P8 P8' → Q (some (vL (stretchS y z a i k l f))) (P0 :: P1 :: P2 :: P3' :: P4 :: P5 :: P6 :: P7' :: P8' :: P9 :: P10 :: P11 :: P12 :: R)) : Tri 143 (d + 13) [vR 12 0 0, vI (iI a), vI (iI i), vI (iI k)] (P0 :: P1 :: P2 :: P3 :: P4 :: P5 :: P6 :: P7 :: P8 :: P9 :: P10 :: P11 :: P12 :: R) Q := by
  have hl := hB.1.2.1
  refine enX11_stretch ?_
  unfold fX11_stretch_0
  unfold stretchS at h
  refine C_findTurn rfl rfl rfl ha hi hk hsk hB hF hY hS hC hI (fun P3' P7' P8' hN u1 u2 hK S1 C1 n1 f7 f8 => ?_) (fun P3' P8' hN S1 C1 n1 f8 => ?_)
  · dsimp only [hx13, rI]
    have hh := h P3' P7' P8' S1 C1 n1 f7 f8
    rw [if_pos (dcd_t.mpr hN)] at hh
    have i0 := hN.2
    refine ⟨fun g => absurd g (by decide), fun _ => C_stretchOr hK hF hl hB.1.2.2.1 (show i.toNat < (nmP y z k l f a.toNat).1.length by omega) u2 ?_⟩
    dsimp only [hx13, rL]
    exact hh
  · dsimp only [hx13, rI]
    have hh := h P3' P7 P8' S1 C1 n1 Fr.rf f8
    rw [if_neg (fun g => hN (dcd_t.mp g))] at hh
    exact ⟨fun _ => hh, fun g => absurd rfl g⟩
