/-! ===== the class: NAMINGS, NAMED ===== -/
abbrev frP (i : Nat) (P P' : PS) : Prop := FrO i [10, 11, 12] [] [8] [9] P P'
abbrev frN8 (P P' : PS) : Prop := Fr [4, 5] [] [1, 2, 3, 0] [] P P'
theorem PiC.fro {i : Nat} {L : Nat → Int} {z : Int} {P P' : PS} (h : PiC i L z P) (hf : frP i P P') : PiC i L z P' := by
  refine ⟨?_, fun e he => ?_, fun e he => ?_, fun r c hr hc => ?_, ?_⟩
  · rw [hf.2.1 5 (by simp)]; exact h.1
  · rw [hf.2.2.2.1 0 e (by simp), hf.2.2.2.1 1 e (by simp), hf.2.2.2.1 2 e (by simp), hf.2.2.2.1 3 e (by simp)]; exact h.2.1 e he
  · rw [hf.2.1 6 (by simp)]; exact h.2.2.1 e he
  · rw [hf.2.2.2.1 4 r (by simp)]; exact h.2.2.2.1 r c hr hc
  · rw [hf.2.1 7 (by simp)]; exact h.2.2.2.2
/-- every picture of the story keeps NAMINGS of its POINTS, or none -/
abbrev BXt : Type := (Nat → Prop) × (Nat → Nat → Int)
def CsC (X : BXt) (y : SY) (z : Int) (l : List SR) (f : Nat → Int) (P3 P6 : PS) : Prop := (∀ q, q < y.1 → ∀ i, gR P6 0 0 q = some i → CaC i (y.2.1 q) z l f P3 ∧ y.2.1 q = X.2 i) ∧ ∀ i, X.1 i → PiC i (X.2 i) z P3 ∧ CaC i (X.2 i) z l f P3
theorem C_knownAndNamed {d w kb : Nat} {y : SY} {X : BXt} {z t a k : Int} {l : List SR} {f : Nat → Int} {x1 x2 : Int32} {P0 P1 P2 P3 P4 P5 P6 P7 P8 P9 P10 P11 P12 : PS} {R : List PS} {Q : Option AV → List PS → Prop} (e1 : x1 = iI a) (e2 : x2 = iI k) (ha : -2147483648 ≤ a ∧ a < 2147483648) (hk : -2147483648 ≤ k ∧ k < 2147483648) (hsk : gO P12 0 11 = some kb) (hB : BoC kb l f P2) (hF : FOK f) (hY : SyK y w z t) (hS : StC 0 y z t P3 P6) (hC : CsC X y z l f P3 P6) (hy : ∀ i P3' P8', cntS y a k = true → gR P6 0 0 a.toNat = some i → PiC i (y.2.1 a.toNat) z P3' → (∀ e, e < 32 → bz (gI P3' i 10) e = (decide (e < nD (y.2.1 a.toNat) z) && ptB y z k a.toNat e)) → NcC i (qX y z k f a.toNat) (qY y z k f a.toNat) l (f 4) (aP y z k a.toNat) P3' → frP i P3 P3' → frN8 P8 P8' → Q (some (vR 3 i 0)) (P0 :: P1 :: P2 :: P3' :: P4 :: P5 :: P6 :: P7 :: P8' :: P9 :: P10 :: P11 :: P12 :: R)) (hn : cntS y a k = false → Q (some vN) (P0 :: P1 :: P2 :: P3 :: P4 :: P5 :: P6 :: P7 :: P8 :: P9 :: P10 :: P11 :: P12 :: R)) : Tri 159 (d + 11) [vR 12 0 0, vI x1, vI x2] (P0 :: P1 :: P2 :: P3 :: P4 :: P5 :: P6 :: P7 :: P8 :: P9 :: P10 :: P11 :: P12 :: R) Q := by
  subst e1 e2
  refine enX11_knownAndNamed ?_
  unfold fX11_knownAndNamed_0
  refine C_known rfl rfl ha hk hY hS (fun i ct g2 g3 => ?_) (fun ct => ?_)
  · have ap := cntS_lt ct
    have h12 := (nD_le (y.2.1 a.toNat) z).1
    dsimp only [hx13, rR]
    refine ⟨rfl, C_pointsOf hk hY hS ap.2 g3 (fun x hx => ?_)⟩
    dsimp only [hx13, rI]
    refine ⟨fun e => ?_, fun ne => ?_⟩
    · rcases (hC.1 a.toNat ap.2 i g2).1 with m1 | nc
      · exfalso
        have b1 := bz_m1 31 (by omega)
        rw [← m1, e, hx 31 (by omega), decide_eq_false (by omega), Bool.false_and] at b1
        exact absurd b1 (by decide)
      · have e' : gI P3 i 10 = x := e
        rw [e', (bX_q (f := f) hx).1, (bX_q (f := f) hx).2.1, (bX_q (f := f) hx).2.2] at nc
        exact hy i P3 P8 ct g2 g3 (by rw [e']; exact hx) nc FrO.rf Fr.rf
    · have hsk' : gO P12 0 11 = some kb := hsk
      rw [hsk']
      dsimp only [oM]
      refine C_nameAll (w := w) g3 hx hB hF (hY.2.2 a.toNat ap.2).1 (fun P3' P8' e nc f3 f8 => ?_)
      dsimp only [hx13, rV]
      exact hy i P3' P8' ct g2 (g3.fro f3) (by rw [e]; exact hx) nc f3 f8
  · dsimp only [hx13, rR]
    exact hn ct
theorem C_namings {d w kb : Nat} {y : SY} {X : BXt} {z t a b k : Int} {l : List SR} {f : Nat → Int} {P0 P1 P2 P3 P4 P5 P6 P7 P8 P9 P10 P11 P12 : PS} {R : List PS} {Q : Option AV → List PS → Prop} (ha : -2147483648 ≤ a ∧ a < 2147483648) (hk : -2147483648 ≤ k ∧ k < 2147483648) (hsk : gO P12 0 11 = some kb) (hB : BoC kb l f P2) (hF : FOK f) (hY : SyK y w z t) (hS : StC 0 y z t P3 P6) (hC : CsC X y z l f P3 P6) (h : ∀ i P3' P8', (cntS y a k = true → gR P6 0 0 a.toNat = some i ∧ CaC i (y.2.1 a.toNat) z l f P3' ∧ frP i P3 P3') → (cntS y a k = false → P3' = P3) → frN8 P8 P8' → Q (some (vI (iI (namingsS y z a k l f (iI b))))) (P0 :: P1 :: P2 :: P3' :: P4 :: P5 :: P6 :: P7 :: P8' :: P9 :: P10 :: P11 :: P12 :: R)) : Tri 137 (d + 12) [vR 12 0 0, vI (iI a), vI (iI b), vI (iI k)] (P0 :: P1 :: P2 :: P3 :: P4 :: P5 :: P6 :: P7 :: P8 :: P9 :: P10 :: P11 :: P12 :: R) Q := by
  refine enX11_namings ?_
  unfold fX11_namings_0
  refine C_knownAndNamed rfl rfl ha hk hsk hB hF hY hS hC (fun i P3' P8' ct g2 hP hx nc f3 f8 => ?_) (fun ct => ?_)
  · dsimp only [hx13, rR]
    have ca : CaC i (y.2.1 a.toNat) z l f P3' := Or.inr (by rw [(bX_q (f := f) hx).1, (bX_q (f := f) hx).2.1, (bX_q (f := f) hx).2.2]; exact nc)
    have hh := h i P3' P8' (fun _ => ⟨g2, ca, f3⟩) (fun q => by rw [ct] at q; exact absurd q (by decide)) f8
    unfold namingsS at hh
    rw [if_pos ct] at hh
    refine ⟨rfl, fun c => ?_, fun c => ⟨fun c1 => ?_, fun c1 => ?_⟩⟩
    · rw [if_pos c] at hh
      have := nc.1.1
      rw [show gI P3' i 11 = _ from this]; exact hh
    · rw [if_neg c, if_pos c1] at hh
      have := nc.2.1
      rw [show gI P3' i 12 = _ from this]; exact hh
    · rw [if_neg c, if_neg c1] at hh; exact hh
  · dsimp only [hx13, rR]
    have hh := h 0 P3 P8 (fun q => by rw [ct] at q; exact absurd q (by decide)) (fun _ => rfl) Fr.rf
    unfold namingsS at hh
    rw [ct] at hh; exact hh
theorem C_named {d w kb : Nat} {y : SY} {X : BXt} {z t a i q k : Int} {l : List SR} {f : Nat → Int} {P0 P1 P2 P3 P4 P5 P6 P7 P8 P9 P10 P11 P12 : PS} {R : List PS} {Q : Option AV → List PS → Prop} (ha : -2147483648 ≤ a ∧ a < 2147483648) (hi : -2147483648 ≤ i ∧ i < 2147483648) (hq : -2147483648 ≤ q ∧ q < 2147483648) (hk : -2147483648 ≤ k ∧ k < 2147483648) (hsk : gO P12 0 11 = some kb) (hB : BoC kb l f P2) (hF : FOK f) (hY : SyK y w z t) (hS : StC 0 y z t P3 P6) (hC : CsC X y z l f P3 P6) (h : ∀ j P3' P8', (cntS y a k = true → gR P6 0 0 a.toNat = some j ∧ CaC j (y.2.1 a.toNat) z l f P3' ∧ frP j P3 P3') → (cntS y a k = false → P3' = P3) → frN8 P8 P8' → Q (some (vI (iI (namedS y z a i q k l f)))) (P0 :: P1 :: P2 :: P3' :: P4 :: P5 :: P6 :: P7 :: P8' :: P9 :: P10 :: P11 :: P12 :: R)) : Tri 138 (d + 12) [vR 12 0 0, vI (iI a), vI (iI i), vI (iI q), vI (iI k)] (P0 :: P1 :: P2 :: P3 :: P4 :: P5 :: P6 :: P7 :: P8 :: P9 :: P10 :: P11 :: P12 :: R) Q := by
  refine enX11_named ?_
  unfold fX11_named_0
  refine C_knownAndNamed rfl rfl ha hk hsk hB hF hY hS hC (fun j P3' P8' ct g2 hP hx nc f3 f8 => ?_) (fun ct => ?_)
  · dsimp only [hx13, rR]
    have ca : CaC j (y.2.1 a.toNat) z l f P3' := Or.inr (by rw [(bX_q (f := f) hx).1, (bX_q (f := f) hx).2.1, (bX_q (f := f) hx).2.2]; exact nc)
    have hh := h j P3' P8' (fun _ => ⟨g2, ca, f3⟩) (fun q => by rw [ct] at q; exact absurd q (by decide)) f8
    refine ⟨rfl, C_starOf (F := (nmS (qX y z k f a.toNat) (qY y z k f a.toNat) l (f 4) (aP y z k a.toNat)).1) (l := l) rfl rfl hi hq hB.1.2.1 (fun v hv => fun q' hq' => ((nmF_ok _ v (Nat.le_refl _) hv).1 q' hq').1) nc.1 ?_⟩
    dsimp only [hx13, rI]
    unfold namedS at hh
    by_cases c : (0 ≤ i ∧ i < ((nmS (qX y z k f a.toNat) (qY y z k f a.toNat) l (f 4) (aP y z k a.toNat)).1.length : Nat)) ∧ (0 ≤ q ∧ q < 6) ∧ (if q.toNat < aP y z k a.toNat then ((nmS (qX y z k f a.toNat) (qY y z k f a.toNat) l (f 4) (aP y z k a.toNat)).1.getD i.toNat (fun _ => 32)) q.toNat else 32) ≠ 32
    · rw [if_pos c]
      rw [if_pos (dcd_t.mpr ⟨⟨ct, c.1⟩, c.2⟩)] at hh
      exact hh
    · rw [if_neg c]
      rw [if_neg (fun g => c ⟨(dcd_t.mp g).1.2, (dcd_t.mp g).2⟩)] at hh
      exact hh
  · dsimp only [hx13, rR]
    have hh := h 0 P3 P8 (fun q => by rw [ct] at q; exact absurd q (by decide)) (fun _ => rfl) Fr.rf
    unfold namedS at hh
    rw [if_neg (fun g => by have := (dcd_t.mp g).1.1; rw [ct] at this; exact absurd this (by decide))] at hh
    exact hh
