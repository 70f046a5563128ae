/-! ===== TURN, LOOK, STRETCH: the Model ===== -/
noncomputable def tuA (y : SY) (z k : Int) (l : List SR) (f : Nat → Int) (p i : Nat) : Int := tA (nmAt y z k l f p i) (qX y z k f p) (qY y z k f p) 6
noncomputable def tuC (y : SY) (z k : Int) (l : List SR) (f : Nat → Int) (p i : Nat) : Int := tC (nmAt y z k l f p i) (qX y z k f p) (qY y z k f p) (oV l f (nmAt y z k l f p i)) (oW l f (nmAt y z k l f p i)) 6
noncomputable def tuS (y : SY) (z k : Int) (l : List SR) (f : Nat → Int) (p i : Nat) : Int := tS (nmAt y z k l f p i) (qX y z k f p) (qY y z k f p) (oV l f (nmAt y z k l f p i)) (oW l f (nmAt y z k l f p i)) 6
noncomputable def tuN (y : SY) (z k : Int) (l : List SR) (f : Nat → Int) (p i : Nat) : Int := tN (nmAt y z k l f p i)
noncomputable def tuX (y : SY) (z k : Int) (l : List SR) (f : Nat → Int) (p i : Nat) : Int := sZ (nmAt y z k l f p i) (qX y z k f p) 6
noncomputable def tuY (y : SY) (z k : Int) (l : List SR) (f : Nat → Int) (p i : Nat) : Int := sZ (nmAt y z k l f p i) (qY y z k f p) 6
noncomputable def tuV (y : SY) (z k : Int) (l : List SR) (f : Nat → Int) (p i : Nat) : Int := sZ (nmAt y z k l f p i) (oV l f (nmAt y z k l f p i)) 6
noncomputable def tuW (y : SY) (z k : Int) (l : List SR) (f : Nat → Int) (p i : Nat) : Int := sZ (nmAt y z k l f p i) (oW l f (nmAt y z k l f p i)) 6
theorem tu_bd {y : SY} {z k : Int} {p w i : Nat} {l : List SR} {f : Nat → Int} (hK : LtK p w z (y.2.1 p)) (hF : FOK f) (hl : l.length ≤ 32) (hs : ∀ s ∈ l, StOK s) (hi : i < (nmP y z k l f p).1.length) : (3 ≤ tuN y z k l f p i ∧ tuN y z k l f p i ≤ 6) ∧ (0 ≤ tuA y z k l f p i ∧ tuA y z k l f p i ≤ 840682800) ∧ (-1219140720 ≤ tuC y z k l f p i ∧ tuC y z k l f p i ≤ 1219140720) ∧ (-1219140720 ≤ tuS y z k l f p i ∧ tuS y z k l f p i ≤ 1219140720) ∧ (-8370 ≤ tuX y z k l f p i ∧ tuX y z k l f p i ≤ 8370) ∧ (-8370 ≤ tuY y z k l f p i ∧ tuY y z k l f p i ≤ 8370) ∧ (-65880 ≤ tuV y z k l f p i ∧ tuV y z k l f p i ≤ 65880) ∧ (-65880 ≤ tuW y z k l f p i ∧ tuW y z k l f p i ≤ 65880) := tur_bd hK hF hl hs hi
noncomputable def turnS (y : SY) (z a i v k : Int) (l : List SR) (f : Nat → Int) : Int64 := if dcd (hasN y z a i k l f ∧ 0 ≤ v ∧ v ≤ 1) = true then (if Int.gcd (tuC y z k l f a.toNat i.toNat) (tuS y z k l f a.toNat i.toNat) = 0 then 0 else if v = 0 then iL (tuC y z k l f a.toNat i.toNat) / iL (Int.gcd (tuC y z k l f a.toNat i.toNat) (tuS y z k l f a.toNat i.toNat) : Nat) else iL (tuS y z k l f a.toNat i.toNat) / iL (Int.gcd (tuC y z k l f a.toNat i.toNat) (tuS y z k l f a.toNat i.toNat) : Nat)) else iL (-1000000000000)
noncomputable def lkU (y : SY) (z k v : Int) (l : List SR) (f : Nat → Int) (p i : Nat) : Int := if v = 0 then tuV y z k l f p i * tuA y z k l f p i + tuC y z k l f p i * (5 * f 0 * f 1 * tuN y z k l f p i - tuX y z k l f p i) - tuS y z k l f p i * (5 * f 0 * f 1 * tuN y z k l f p i - tuY y z k l f p i) else tuW y z k l f p i * tuA y z k l f p i + tuS y z k l f p i * (5 * f 0 * f 1 * tuN y z k l f p i - tuX y z k l f p i) + tuC y z k l f p i * (5 * f 0 * f 1 * tuN y z k l f p i - tuY y z k l f p i)
noncomputable def lkL (y : SY) (z k : Int) (l : List SR) (f : Nat → Int) (p i : Nat) : Int := tuA y z k l f p i * tuN y z k l f p i
noncomputable def lookS (y : SY) (z a i v u k : Int) (l : List SR) (f : Nat → Int) : Int64 := if dcd (hasN y z a i k l f ∧ (0 ≤ v ∧ v ≤ 1) ∧ (0 ≤ u ∧ u ≤ 1) ∧ tuA y z k l f a.toNat i.toNat ≠ 0) = true then (if u = 0 then iL (lkU y z k v l f a.toNat i.toNat) / iL (Int.gcd (lkU y z k v l f a.toNat i.toNat) (lkL y z k l f a.toNat i.toNat) : Nat) else iL (lkL y z k l f a.toNat i.toNat) / iL (Int.gcd (lkU y z k v l f a.toNat i.toNat) (lkL y z k l f a.toNat i.toNat) : Nat)) else iL (-1000000000000)
noncomputable def strS (n : Int64) (y : SY) (z k : Int) (l : List SR) (f : Nat → Int) (p i : Nat) : Int64 := if tuA y z k l f p i = 0 then n else iL (rt (tuC y z k l f p i * tuC y z k l f p i + tuS y z k l f p i * tuS y z k l f p i).toNat : Nat) * 1000 / iL (tuA y z k l f p i)
noncomputable def stretchS (y : SY) (z a i k : Int) (l : List SR) (f : Nat → Int) : Int64 := if dcd (hasN y z a i k l f) = true then strS (iL (-1000000000000)) y z k l f a.toNat i.toNat else iL (-1000000000000)
theorem lk_bd {y : SY} {z k v : Int} {p w i : Nat} {l : List SR} {f : Nat → Int} (hK : LtK p w z (y.2.1 p)) (hF : FOK f) (hl : l.length ≤ 32) (hs : ∀ s ∈ l, StOK s) (hi : i < (nmP y z k l f p).1.length) : (-9223372036854775808 < lkU y z k v l f p i ∧ lkU y z k v l f p i < 9223372036854775808) ∧ -1125899906842624 < lkL y z k l f p i ∧ lkL y z k l f p i < 1125899906842624 := by
  have b := tu_bd hK hF hl hs hi
  have f0 := hF.1
  have f1 := hF.2.1
  have m1 := prd_bd (a := f 0) (b := f 1) (A := 16) (B := 9) (by omega) (by omega)
  have m2 := prd_bd (a := 5 * f 0 * f 1) (b := tuN y z k l f p i) (A := 720) (B := 6) (by rw [Int.mul_assoc]; omega) (by omega)
  have v1 := prd_bd (a := tuV y z k l f p i) (b := tuA y z k l f p i) (A := 65880) (B := 840682800) (by omega) (by omega)
  have v2 := prd_bd (a := tuW y z k l f p i) (b := tuA y z k l f p i) (A := 65880) (B := 840682800) (by omega) (by omega)
  have c1 := prd_bd (a := tuC y z k l f p i) (b := 5 * f 0 * f 1 * tuN y z k l f p i - tuX y z k l f p i) (A := 1219140720) (B := 12690) (by omega) (by omega)
  have c2 := prd_bd (a := tuC y z k l f p i) (b := 5 * f 0 * f 1 * tuN y z k l f p i - tuY y z k l f p i) (A := 1219140720) (B := 12690) (by omega) (by omega)
  have s1 := prd_bd (a := tuS y z k l f p i) (b := 5 * f 0 * f 1 * tuN y z k l f p i - tuX y z k l f p i) (A := 1219140720) (B := 12690) (by omega) (by omega)
  have s2 := prd_bd (a := tuS y z k l f p i) (b := 5 * f 0 * f 1 * tuN y z k l f p i - tuY y z k l f p i) (A := 1219140720) (B := 12690) (by omega) (by omega)
  have l1 := prd_bd (a := tuA y z k l f p i) (b := tuN y z k l f p i) (A := 840682800) (B := 6) (by omega) (by omega)
  unfold lkU lkL
  refine ⟨?_, by omega⟩
  split <;> omega
theorem M_turn {d w : Nat} {y : SY} {z t a i v k : Int} {l : List SR} {f : Nat → Int} {P : PS} {R : List PS} {Q : Option AV → List PS → Prop} (ha : -2147483648 ≤ a ∧ a < 2147483648) (hi : -2147483648 ≤ i ∧ i < 2147483648) (hv : -2147483648 ≤ v ∧ v < 2147483648) (hk : -2147483648 ≤ k ∧ k < 2147483648) (hS : StM y w z t P) (hB : BoM l f P) (hF : FOK f) (h : ∀ P', Fr snI tuL snA [] P P' → Q (some (vL (turnS y z a i v k l f))) (P' :: R)) : Tri 245 (d + 6) [vR 0 0 0, vI (iI a), vI (iI i), vI (iI v), vI (iI k)] (P :: R) Q := by
  have gap : (-1000000000000 : Int64) = iL (-1000000000000) := rfl
  refine enX12_turn ?_
  unfold fX12_turn_0
  unfold turnS at h
  have v0 : iI v < (0 : Int32) ↔ v < 0 := by rw [show (0 : Int32) = iI 0 from rfl]; exact iI_lt (by omega) (by omega) (by omega) (by omega)
  have v1 : (1 : Int32) < iI v ↔ 1 < v := by rw [show (1 : Int32) = iI 1 from rfl]; exact iI_lt (by omega) (by omega) (by omega) (by omega)
  have v2 : iI v = (0 : Int32) ↔ v = 0 := by rw [show (0 : Int32) = iI 0 from rfl]; exact iI_eq (by omega) (by omega) (by omega) (by omega)
  rw [v0, v1, v2, gap]
  have no : ∀ P', ¬ (hasN y z a i k l f ∧ 0 ≤ v ∧ v ≤ 1) → Fr snI tuL snA [] P P' → Q (some (vL (iL (-1000000000000)))) (P' :: R) := fun P' c fP => by
    have := h P' fP
    rw [if_neg (fun g => c (dcd_t.mp g))] at this; exact this
  refine ⟨fun c => no P (by omega) Fr.rf, fun c => ⟨fun c1 => no P (by omega) Fr.rf, fun c1 => ?_⟩⟩
  refine M_hasNaming rfl rfl rfl ha hi hk hS hB hF (fun B hN nB fB => ?_) (fun B hN fB => ?_)
  · dsimp only [hx1, rI]
    refine ⟨fun _ => ?_, fun g => absurd g (by decide)⟩
    have i0 := hN.2
    have bd := tu_bd nB.1.2.1 hF hB.1.2.1 hB.1.2.2.1 (show i.toNat < (nmP y z k l f a.toNat).1.length by omega)
    refine M_seekTurn (i := i.toNat) (congrArg iI (by omega)) nB (by omega) (fun C u1 u2 fC => ?_)
    dsimp only [hx1, rV]
    have hh := h C (fB.tr fC (by simp) (by simp) (by simp) (by simp) (by simp) (by simp) (by simp) (by simp))
    rw [if_pos (dcd_t.mpr ⟨hN, by omega, by omega⟩)] at hh
    have eC : gL C 0 53 = iL (tuC y z k l f a.toNat i.toNat) := u2.2.1
    have eS : gL C 0 54 = iL (tuS y z k l f a.toNat i.toNat) := u2.2.2
    rw [eC, eS]
    refine M_common rfl rfl (by omega) (by omega) ?_
    dsimp only [hx1, rL]
    have gb := gcd_bd (a := tuC y z k l f a.toNat i.toNat) (b := tuS y z k l f a.toNat i.toNat) (by omega) (by omega)
    have z0 : (iL (Int.gcd (tuC y z k l f a.toNat i.toNat) (tuS y z k l f a.toNat i.toNat) : Nat) = (0 : Int64)) ↔ Int.gcd (tuC y z k l f a.toNat i.toNat) (tuS y z k l f a.toNat i.toNat) = 0 := by
      rw [show (0 : Int64) = iL 0 from rfl, iL_eq (by omega) (by omega) (by omega) (by omega)]; omega
    rw [lcmp_eq, z0, eC, eS]
    refine ⟨fun g0 => ?_, fun g0 => ?_⟩
    · rw [if_neg g0] at hh
      refine ⟨fun c2 => ⟨g0, ?_⟩, fun c2 => ⟨g0, ?_⟩⟩
      · rw [if_neg c2] at hh; exact hh
      · rw [if_pos c2] at hh; exact hh
    · rw [if_pos g0] at hh; exact hh
  · dsimp only [hx1, rI]
    exact ⟨fun g => absurd rfl g, fun _ => no B (fun g => hN g.1) (fB.mono (by simp) (by simp) (by simp) (by simp))⟩
theorem M_look {d w : Nat} {y : SY} {z t a i v u k : Int} {l : List SR} {f : Nat → Int} {P : PS} {R : List PS} {Q : Option AV → List PS → Prop} (ha : -2147483648 ≤ a ∧ a < 2147483648) (hi : -2147483648 ≤ i ∧ i < 2147483648) (hv : -2147483648 ≤ v ∧ v < 2147483648) (hu : -2147483648 ≤ u ∧ u < 2147483648) (hk : -2147483648 ≤ k ∧ k < 2147483648) (hS : StM y w z t P) (hB : BoM l f P) (hF : FOK f) (h : ∀ P', Fr snI (50 :: 51 :: tuL) snA [] P P' → Q (some (vL (lookS y z a i v u k l f))) (P' :: R)) : Tri 246 (d + 6) [vR 0 0 0, vI (iI a), vI (iI i), vI (iI v), vI (iI u), vI (iI k)] (P :: R) Q := by
  have gap : (-1000000000000 : Int64) = iL (-1000000000000) := rfl
  refine enX12_look ?_
  unfold fX12_look_0
  unfold lookS at h
  have v0 : iI v < (0 : Int32) ↔ v < 0 := by rw [show (0 : Int32) = iI 0 from rfl]; exact iI_lt (by omega) (by omega) (by omega) (by omega)
  have v1 : (1 : Int32) < iI v ↔ 1 < v := by rw [show (1 : Int32) = iI 1 from rfl]; exact iI_lt (by omega) (by omega) (by omega) (by omega)
  have v2 : iI v = (0 : Int32) ↔ v = 0 := by rw [show (0 : Int32) = iI 0 from rfl]; exact iI_eq (by omega) (by omega) (by omega) (by omega)
  have u0 : iI u < (0 : Int32) ↔ u < 0 := by rw [show (0 : Int32) = iI 0 from rfl]; exact iI_lt (by omega) (by omega) (by omega) (by omega)
  have u1 : (1 : Int32) < iI u ↔ 1 < u := by rw [show (1 : Int32) = iI 1 from rfl]; exact iI_lt (by omega) (by omega) (by omega) (by omega)
  have u2 : iI u = (0 : Int32) ↔ u = 0 := by rw [show (0 : Int32) = iI 0 from rfl]; exact iI_eq (by omega) (by omega) (by omega) (by omega)
  rw [v0, v1, v2, u0, u1, u2, gap]
  have no : ∀ P', ¬ (hasN y z a i k l f ∧ (0 ≤ v ∧ v ≤ 1) ∧ (0 ≤ u ∧ u ≤ 1) ∧ tuA y z k l f a.toNat i.toNat ≠ 0) → Fr snI (50 :: 51 :: tuL) snA [] P P' → Q (some (vL (iL (-1000000000000)))) (P' :: R) := fun P' c fP => by
    have := h P' fP
    rw [if_neg (fun g => c (dcd_t.mp g))] at this; exact this
  refine ⟨fun c => no P (fun g => by have := g.2; omega) Fr.rf, fun c => ⟨fun c1 => no P (fun g => by have := g.2; omega) Fr.rf, fun c1 => ⟨fun c2 => no P (fun g => by have := g.2; omega) Fr.rf, fun c2 => ⟨fun c3 => no P (fun g => by have := g.2; omega) Fr.rf, fun c3 => ?_⟩⟩⟩⟩
  refine M_hasNaming rfl rfl rfl ha hi hk hS hB hF (fun B hN nB fB => ?_) (fun B hN fB => ?_)
  · dsimp only [hx1, rI]
    refine ⟨fun _ => ?_, fun g => absurd g (by decide)⟩
    have i0 := hN.2
    have lt : i.toNat < (nmP y z k l f a.toNat).1.length := by omega
    have bd := tu_bd nB.1.2.1 hF hB.1.2.1 hB.1.2.2.1 lt
    refine M_seekTurn (i := i.toNat) (congrArg iI (by omega)) nB (by omega) (fun C w1 w2 fC => ?_)
    dsimp only [hx1, rV]
    have fBC := fB.tr (is := snI) (ls := 50 :: 51 :: tuL) (as := snA) (bs := []) fC (by simp) (by simp) (by simp) (by simp) (by simp) (by simp) (by simp) (by simp)
    have eA : gL C 0 52 = iL (tuA y z k l f a.toNat i.toNat) := w2.1
    have eC : gL C 0 53 = iL (tuC y z k l f a.toNat i.toNat) := w2.2.1
    have eS : gL C 0 54 = iL (tuS y z k l f a.toNat i.toNat) := w2.2.2
    have eX : gL C 0 55 = iL (tuX y z k l f a.toNat i.toNat) := w1.1
    have eY : gL C 0 56 = iL (tuY y z k l f a.toNat i.toNat) := w1.2.1
    have eV : gL C 0 57 = iL (tuV y z k l f a.toNat i.toNat) := w1.2.2.1
    have eW : gL C 0 58 = iL (tuW y z k l f a.toNat i.toNat) := w1.2.2.2.1
    have eN : gL C 0 59 = iL (tuN y z k l f a.toNat i.toNat) := w1.2.2.2.2
    have BC := (nB.same fC).1.2.2.2.1
    have f0 := hF.1
    have f1 := hF.2.1
    have e0 : gA C 0 12 0 = iI (f 0) := BC.2 0 (by omega)
    have e1 : gA C 0 12 1 = iI (f 1) := BC.2 1 (by omega)
    rw [show ((0 : Int32)).toNatClampNeg = 0 from rfl, show ((1 : Int32)).toNatClampNeg = 1 from rfl, eA, eC, eS, eX, eY, eV, eW, eN, e0, e1, iI_l (by omega) (by omega), iI_l (by omega) (by omega), show (5 : Int64) = iL 5 from rfl, lcmp_eq, show (0 : Int64) = iL 0 from rfl, iL_eq (by omega) (by omega) (by omega) (by omega)]
    simp only [iL_mul, iL_sub, iL_add]
    have lb := lk_bd (v := v) nB.1.2.1 hF hB.1.2.1 hB.1.2.2.1 lt
    refine ⟨fun a0 => ⟨vpk (k := 0) (by omega) (by omega), vpk (k := 1) (by omega) (by omega), fun c4 => ?_, fun c4 => ?_⟩, fun a0 => no C (fun g => g.2.2.2 a0) fBC⟩
    · have hU : lkU y z k v l f a.toNat i.toNat = tuW y z k l f a.toNat i.toNat * tuA y z k l f a.toNat i.toNat + tuS y z k l f a.toNat i.toNat * (5 * f 0 * f 1 * tuN y z k l f a.toNat i.toNat - tuX y z k l f a.toNat i.toNat) + tuC y z k l f a.toNat i.toNat * (5 * f 0 * f 1 * tuN y z k l f a.toNat i.toNat - tuY y z k l f a.toNat i.toNat) := by unfold lkU; rw [if_neg c4]
      have l0 : lkL y z k l f a.toNat i.toNat ≠ 0 := by
        unfold lkL
        exact Int.mul_ne_zero a0 (by omega)
      refine M_reduce (congrArg iL hU.symm) rfl lb.1 lb.2 l0 ?_
      dsimp only [hx1, rV]
      have hh := h _ ((fBC.sL (a := 50) (v := iL (lkU y z k v l f a.toNat i.toNat) / iL (Int.gcd (lkU y z k v l f a.toNat i.toNat) (lkL y z k l f a.toNat i.toNat) : Nat)) (by simp)).sL (a := 51) (v := iL (lkL y z k l f a.toNat i.toNat) / iL (Int.gcd (lkU y z k v l f a.toNat i.toNat) (lkL y z k l f a.toNat i.toNat) : Nat)) (by simp))
      rw [if_pos (dcd_t.mpr ⟨hN, by omega, by omega, a0⟩)] at hh
      refine ⟨fun c5 => ?_, fun c5 => ?_⟩
      · rw [if_neg c5] at hh; exact hh
      · rw [if_pos c5] at hh; exact hh
    · have hU : lkU y z k v l f a.toNat i.toNat = tuV y z k l f a.toNat i.toNat * tuA y z k l f a.toNat i.toNat + tuC y z k l f a.toNat i.toNat * (5 * f 0 * f 1 * tuN y z k l f a.toNat i.toNat - tuX y z k l f a.toNat i.toNat) - tuS y z k l f a.toNat i.toNat * (5 * f 0 * f 1 * tuN y z k l f a.toNat i.toNat - tuY y z k l f a.toNat i.toNat) := by unfold lkU; rw [if_pos c4]
      have l0 : lkL y z k l f a.toNat i.toNat ≠ 0 := by
        unfold lkL
        exact Int.mul_ne_zero a0 (by omega)
      refine M_reduce (congrArg iL hU.symm) rfl lb.1 lb.2 l0 ?_
      dsimp only [hx1, rV]
      have hh := h _ ((fBC.sL (a := 50) (v := iL (lkU y z k v l f a.toNat i.toNat) / iL (Int.gcd (lkU y z k v l f a.toNat i.toNat) (lkL y z k l f a.toNat i.toNat) : Nat)) (by simp)).sL (a := 51) (v := iL (lkL y z k l f a.toNat i.toNat) / iL (Int.gcd (lkU y z k v l f a.toNat i.toNat) (lkL y z k l f a.toNat i.toNat) : Nat)) (by simp))
      rw [if_pos (dcd_t.mpr ⟨hN, by omega, by omega, a0⟩)] at hh
      refine ⟨fun c5 => ?_, fun c5 => ?_⟩
      · rw [if_neg c5] at hh; exact hh
      · rw [if_pos c5] at hh; exact hh
  · dsimp only [hx1, rI]
    exact ⟨fun g => absurd rfl g, fun _ => no B (fun g => hN g.1) (fB.mono (by simp) (by simp) (by simp) (by simp))⟩
theorem sq_sum {c s : Int} (hc : -1219140720 ≤ c ∧ c ≤ 1219140720) (hs : -1219140720 ≤ s ∧ s ≤ 1219140720) : (c * c + s * s).toNat < 4611686018427387904 ∧ ((c * c + s * s).toNat : Int) = c * c + s * s := by
  have b1 := prd_bd hc hc
  have b2 := prd_bd hs hs
  have n1 := sqr_nn c
  have n2 := sqr_nn s
  omega
theorem M_stretchOf {d i w p : Nat} {y : SY} {z k : Int} {l : List SR} {f : Nat → Int} {x : Int32} {P : PS} {R : List PS} {Q : Option AV → List PS → Prop} (e1 : x = iI (i : Nat)) (hN : NmM y z k p w l f P) (hi : i < (nmP y z k l f p).1.length) (h : ∀ P', Fr [] tuL [] [] P P' → Q (some (vL (strS (iL (-1000000000000)) y z k l f p i))) (P' :: R)) : Tri 247 (d + 2) [vR 0 0 0, vI x] (P :: R) Q := by
  subst e1
  have gap : (-1000000000000 : Int64) = iL (-1000000000000) := rfl
  have hB := hN.1.2.2.2.1
  have bd := tu_bd hN.1.2.1 hN.1.2.2.1 hB.1.2.1 hB.1.2.2.1 hi
  refine enX12_stretchOf ?_
  unfold fX12_stretchOf_0
  refine M_seekTurn rfl hN hi (fun C w1 w2 fC => ?_)
  dsimp only [hx1, rV]
  have hh := h C fC
  unfold strS at hh
  have eA : gL C 0 52 = iL (tuA y z k l f p i) := w2.1
  have eC : gL C 0 53 = iL (tuC y z k l f p i) := w2.2.1
  have eS : gL C 0 54 = iL (tuS y z k l f p i) := w2.2.2
  have ss := sq_sum bd.2.2.1 bd.2.2.2.1
  rw [eA, eC, eS, gap, lcmp_eq, show (0 : Int64) = iL 0 from rfl, iL_eq (by omega) (by omega) (by omega) (by omega)]
  simp only [iL_mul, iL_add]
  refine ⟨fun a0 => ?_, fun a0 => ?_⟩
  · rw [if_neg a0] at hh
    refine M_root (congrArg iL ss.2.symm) (by omega) ?_
    dsimp only [hx1, rL]
    rw [eA, iL_eq (by omega) (by omega) (by omega) (by omega)]
    exact ⟨a0, hh⟩
  · rw [if_pos a0] at hh; exact hh
theorem M_stretch {d w : Nat} {y : SY} {z t a i k : Int} {l : List SR} {f : Nat → Int} {P : PS} {R : List PS} {Q : Option AV → List PS → Prop} (ha : -2147483648 ≤ a ∧ a < 2147483648) (hi : -2147483648 ≤ i ∧ i < 2147483648) (hk : -2147483648 ≤ k ∧ k < 2147483648) (hS : StM y w z t P) (hB : BoM l f P) (hF : FOK f) (h : ∀ P', Fr snI tuL snA [] P P' → Q (some (vL (stretchS y z a i k l f))) (P' :: R)) : Tri 248 (d + 6) [vR 0 0 0, vI (iI a), vI (iI i), vI (iI k)] (P :: R) Q := by
  refine enX12_stretch ?_
  unfold fX12_stretch_0
  unfold stretchS at h
  refine M_hasNaming rfl rfl rfl ha hi hk hS hB hF (fun B hN nB fB => ?_) (fun B hN fB => ?_)
  · dsimp only [hx1, rI]
    refine ⟨fun g => absurd g (by decide), fun _ => ?_⟩
    have i0 := hN.2
    refine M_stretchOf (i := i.toNat) (congrArg iI (by omega)) nB (by omega) (fun C fC => ?_)
    dsimp only [hx1, rL]
    have hh := h C (fB.tr fC (by simp) (by simp) (by simp) (by simp) (by simp) (by simp) (by simp) (by simp))
    rw [if_pos (dcd_t.mpr hN)] at hh; exact hh
  · dsimp only [hx1, rI]
    have hh := h B (fB.mono (by simp) (by simp) (by simp) (by simp))
    rw [if_neg (fun g => hN (dcd_t.mp g))] at hh
    exact ⟨fun _ => hh, fun g => absurd rfl g⟩
