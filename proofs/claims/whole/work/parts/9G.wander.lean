/-! ===== WANDERERS ===== -/
/-- the bits of the WANDERERS -/
def IsW (y : SY) (z a k : Int) (l : List SR) (f : Nat → Int) (x : Int32) : Prop := (hasN y z a 0 k l f → ∀ e, e < 32 → bz x e = decide (e < aP y z k a.toNat ∧ nmAt y z k l f a.toNat 0 e = 32)) ∧ (¬ hasN y z a 0 k l f → x = -1)
theorem IsW.uq {y : SY} {z a k : Int} {l : List SR} {f : Nat → Int} {x x' : Int32} (h : IsW y z a k l f x) (h' : IsW y z a k l f x') : x = x' := by
  by_cases c : hasN y z a 0 k l f
  · exact bz_ext (fun e he => by rw [h.1 c e he, h'.1 c e he])
  · rw [h.2 c, h'.2 c]
theorem m6_or (n : Nat) : m6 n = 6 ∨ m6 n = n := by unfold m6; split <;> omega
theorem M_wanderers {d w : Nat} {y : SY} {z t a k : Int} {l : List SR} {f : Nat → Int} {P : PS} {R : List PS} {Q : Option AV → List PS → Prop} (ha : -2147483648 ≤ a ∧ a < 2147483648) (hk : -2147483648 ≤ k ∧ k < 2147483648) (hS : StM y w z t P) (hB : BoM l f P) (hF : FOK f) (h : ∀ x P', IsW y z a k l f x → Fr snI [] snA [] P P' → Q (some (vI x)) (P' :: R)) : Tri 252 (d + 6) [vR 0 0 0, vI (iI a), vI (iI k)] (P :: R) Q := by
  refine enX12_wanderers ?_
  unfold fX12_wanderers_0
  refine M_hasNaming (i := 0) rfl rfl rfl ha (by omega) hk hS hB hF (fun B hN nB fB => ?_) (fun B hN fB => ?_)
  · dsimp only [hx1, rI]
    refine ⟨fun _ => ?_, fun g => absurd g (by decide)⟩
    have A6 : aP y z k a.toNat ≤ 6 ∧ aP y z k a.toNat ≤ nP y z k a.toNat := m6_le (nP y z k a.toNat)
    have Ao : aP y z k a.toNat = 6 ∨ aP y z k a.toNat = nP y z k a.toNat := m6_or (nP y z k a.toNat)
    have n12 := nP_le y z k a.toNat
    have h0 : 0 < (nmP y z k l f a.toNat).1.length := by have := hN.2.2; omega
    have pm : gI B 0 43 = iI (nP y z k a.toNat : Nat) := nB.1.1.2.2.1
    have key : ∀ (m q : Nat) (x : Int32), q + m = aP y z k a.toNat → (∀ e, e < 32 → bz x e = decide (e < q ∧ nmAt y z k l f a.toNat 0 e = 32)) → cX12_wanderers_17 (0, 0, 0, 0) (d + 5) x (iI (q : Nat)) B R Q := by
      intro m
      induction m with
      | zero =>
        intro q x hq hx
        have fin : Q (some (vI x)) (B :: R) := h x B ⟨fun _ => by rw [show aP y z k a.toNat = q by omega]; exact hx, fun c => absurd hN c⟩ fB
        refine gX12_wanderers_17 ?_
        unfold fX12_wanderers_17
        rw [pm, show (6 : Int32) = iI 6 from rfl, iI_le (by omega) (by omega) (by omega) (by omega), iI_le (by omega) (by omega) (by omega) (by omega)]
        exact ⟨fun _ => fin, fun c => ⟨fun _ => fin, fun c2 => absurd (by omega) c2⟩⟩
      | succ m ih =>
        intro q x hq hx
        refine gX12_wanderers_17 ?_
        unfold fX12_wanderers_17
        rw [pm, show (6 : Int32) = iI 6 from rfl, iI_le (by omega) (by omega) (by omega) (by omega), iI_le (by omega) (by omega) (by omega) (by omega), show iI (q : Nat) + 1 = iI ((q + 1 : Nat)) from iI_add (q : Nat) 1]
        refine ⟨fun c => absurd c (by omega), fun _ => ⟨fun c => absurd c (by omega), fun _ => M_isNamed (i := 0) (q := q) rfl rfl nB h0 (by omega) ?_⟩⟩
        dsimp only [hx1, rI]
        rw [oI_dec]
        refine ⟨fun c => ih (q + 1) _ (by omega) (fun e he => ?_), fun c => ih (q + 1) _ (by omega) (fun e he => ?_)⟩
        · have c' := Decidable.not_not.mp c
          rw [bz_or, hx e he, bz_1 q (by omega) e he]
          by_cases ce : e = q
          · subst ce
            rw [decide_eq_true (show e = e from rfl), Bool.or_true]
            exact (decide_eq_true ⟨by omega, c'⟩).symm
          · rw [decide_eq_false ce, Bool.or_false]
            exact decide_eq_decide.mpr ⟨fun g => ⟨by omega, g.2⟩, fun g => ⟨by omega, g.2⟩⟩
        · have c' := Decidable.not_not.mp c
          rw [bz_or, hx e he, bz_0, Bool.or_false]
          refine decide_eq_decide.mpr ⟨fun g => ⟨by omega, g.2⟩, fun g => ⟨?_, g.2⟩⟩
          by_cases ce : e = q
          · subst ce; exact absurd g.2 c'
          · omega
    exact key (aP y z k a.toNat) 0 0 (by omega) (fun e he => by rw [bz_0]; exact (decide_eq_false (fun g => absurd g.1 (Nat.not_lt_zero e))).symm)
  · dsimp only [hx1, rI]
    exact ⟨fun g => absurd rfl g, fun _ => h (-1) B ⟨fun c => absurd c hN, fun _ => rfl⟩ fB⟩
theorem C_wanderers {d w kb : Nat} {y : SY} {X : BXt} {z t a k : Int} {l : List SR} {f : Nat → Int} {P0 P1 P2 P3 P4 P5 P6 P7 P8 P9 P10 P11 P12 : PS} {R : List PS} {Q : Option AV → List PS → Prop} (ha : -2147483648 ≤ a ∧ a < 2147483648) (hk : -2147483648 ≤ k ∧ k < 2147483648) (hsk : gO P12 0 11 = some kb) (hB : BoC kb l f P2) (hF : FOK f) (hY : SyK y w z t) (hS : StC 0 y z t P3 P6) (hC : CsC X y z l f P3 P6) (h : ∀ x j P3' P8', IsW y z a k l f x → (cntS y a k = true → gR P6 0 0 a.toNat = some j ∧ CaC j (y.2.1 a.toNat) z l f P3' ∧ frP j P3 P3') → (cntS y a k = false → P3' = P3) → frN8 P8 P8' → Q (some (vI x)) (P0 :: P1 :: P2 :: P3' :: P4 :: P5 :: P6 :: P7 :: P8' :: P9 :: P10 :: P11 :: P12 :: R)) : Tri 146 (d + 12) [vR 12 0 0, vI (iI a), vI (iI k)] (P0 :: P1 :: P2 :: P3 :: P4 :: P5 :: P6 :: P7 :: P8 :: P9 :: P10 :: P11 :: P12 :: R) Q := by
  refine enX11_wanderers ?_
  unfold fX11_wanderers_0
  refine C_knownAndNamed rfl rfl ha hk hsk hB hF hY hS hC (fun j P3' P8' ct g2 hP hx nc f3 f8 => ?_) (fun ct => ?_)
  · dsimp only [hx13, rR]
    have ca : CaC j (y.2.1 a.toNat) z l f P3' := Or.inr (by rw [(bX_q (f := f) hx).1, (bX_q (f := f) hx).2.1, (bX_q (f := f) hx).2.2]; exact nc)
    have hh := fun x (hw : IsW y z a k l f x) => h x j P3' P8' hw (fun _ => ⟨g2, ca, f3⟩) (fun q => by rw [ct] at q; exact absurd q (by decide)) f8
    have h12 := (nD_le (y.2.1 a.toNat) z).1
    have A6 : aP y z k a.toNat ≤ 6 ∧ aP y z k a.toNat ≤ nP y z k a.toNat := m6_le (nP y z k a.toNat)
    have n12 := nP_le y z k a.toNat
    have ap := cntS_lt ct
    have hl := hB.1.2.1
    have nl : gI P3' j 11 = iI ((nmP y z k l f a.toNat).1.length : Nat) := nc.1.1
    have l200 : (nmP y z k l f a.toNat).1.length ≤ 200 := nc.1.2.1
    have n0 : gI P3' j 11 = 0 ↔ (((nmP y z k l f a.toNat).1.length : Nat) : Int) = 0 := by rw [nl, show (0 : Int32) = iI 0 from rfl]; exact iI_eq (by omega) (by omega) (by omega) (by omega)
    refine ⟨rfl, ?_⟩
    rw [n0]
    refine ⟨fun c => J_bitCount ?_, fun c => hh (-1) ⟨fun g => ?_, fun _ => rfl⟩⟩
    · dsimp only [hx13, rI]
      have hx' : ∀ e, e < 32 → bz (gI P3' j 10) e = (decide (e < nD (y.2.1 a.toNat) z) && ptB y z k a.toNat e) := hx
      rw [bcn_cut (by omega) hx']
      have e6 : (if iI (cnt (ptB y z k a.toNat) (nD (y.2.1 a.toNat) z) : Nat) < 6 then iI (cnt (ptB y z k a.toNat) (nD (y.2.1 a.toNat) z) : Nat) else (6 : Int32)) = iI (aP y z k a.toNat : Nat) := by
        have : cnt (ptB y z k a.toNat) (nD (y.2.1 a.toNat) z) = nP y z k a.toNat := rfl
        rw [this]
        simp (disch := omega) only [show (6 : Int32) = iI 6 from rfl, iI_lt]
        unfold aP m6
        by_cases c : nP y z k a.toNat < 6
        · rw [if_pos (by omega), if_pos c]
        · rw [if_neg (by omega), if_neg c]; rfl
      rw [e6]
      have hN : hasN y z a 0 k l f := ⟨ct, by omega, by omega⟩
      have key : ∀ (m q : Nat) (x : Int32), q + m = aP y z k a.toNat → (∀ e, e < 32 → bz x e = decide (e < q ∧ nmAt y z k l f a.toNat 0 e = 32)) → cX11_wanderers_40 (0, 0, 0, 0) (d + 11) j (iI (aP y z k a.toNat : Nat)) x (iI (q : Nat)) P0 P1 P2 P3' P4 P5 P6 P7 P8' P9 P10 P11 P12 R Q := by
        intro m
        induction m with
        | zero =>
          intro q x hq hx
          refine gX11_wanderers_40 ?_
          unfold fX11_wanderers_40
          rw [iI_le (by omega) (by omega) (by omega) (by omega)]
          exact ⟨fun _ => hh x ⟨fun _ => by rw [show aP y z k a.toNat = q by omega]; exact hx, fun c => absurd hN c⟩, fun c2 => absurd (by omega) c2⟩
        | succ m ih =>
          intro q x hq hx
          have nt := nmAt_lt (y := y) (z := z) (k := k) (l := l) (f := f) (p := a.toNat) (i := 0) (q := q) (by omega)
          refine gX11_wanderers_40 ?_
          unfold fX11_wanderers_40
          rw [iI_le (by omega) (by omega) (by omega) (by omega), show iI (q : Nat) + 1 = iI ((q + 1 : Nat)) from iI_add (q : Nat) 1]
          refine ⟨fun c => absurd c (by omega), fun _ => C_starOf (i := 0) (q := (q : Nat)) (F := (nmS (qX y z k f a.toNat) (qY y z k f a.toNat) l (f 4) (aP y z k a.toNat)).1) (l := l) rfl rfl (by omega) (by omega) hl (fun v hv => fun q' hq' => ((nmF_ok _ v (Nat.le_refl _) hv).1 q' hq').1) nc.1 ?_⟩
          dsimp only [hx13, rI]
          rw [Int.toNat_natCast, show (0 : Int).toNat = 0 from rfl, show (if q < aP y z k a.toNat then ((nmS (qX y z k f a.toNat) (qY y z k f a.toNat) l (f 4) (aP y z k a.toNat)).1.getD 0 (fun _ => 32)) q else 32) = nmAt y z k l f a.toNat 0 q from rfl]
          by_cases cn : nmAt y z k l f a.toNat 0 q = 32
          · rw [if_neg (fun g => g.2.2 cn)]
            refine ⟨fun g => absurd rfl g, fun _ => ih (q + 1) _ (by omega) (fun e he => ?_)⟩
            rw [bz_or, hx e he, bz_1 q (by omega) e he]
            by_cases ce : e = q
            · subst ce
              rw [decide_eq_true (show e = e from rfl), Bool.or_true]
              exact (decide_eq_true ⟨by omega, cn⟩).symm
            · rw [decide_eq_false ce, Bool.or_false]
              exact decide_eq_decide.mpr ⟨fun g => ⟨by omega, g.2⟩, fun g => ⟨by omega, g.2⟩⟩
          · have hlen : (0 : Int) < ((nmS (qX y z k f a.toNat) (qY y z k f a.toNat) l (f 4) (aP y z k a.toNat)).1.length : Nat) := hN.2.2
            rw [if_pos ⟨⟨by omega, hlen⟩, by omega, cn⟩]
            have ne : ¬ iI (nmAt y z k l f a.toNat 0 q : Nat) = (-1 : Int32) := by
              rw [show (-1 : Int32) = iI (-1) from rfl, iI_eq (by omega) (by omega) (by omega) (by omega)]; omega
            refine ⟨fun _ => ih (q + 1) _ (by omega) (fun e he => ?_), fun g => absurd g ne⟩
            rw [hx e he]
            refine decide_eq_decide.mpr ⟨fun g => ⟨by omega, g.2⟩, fun g => ⟨?_, g.2⟩⟩
            by_cases ce : e = q
            · subst ce; exact absurd g.2 cn
            · omega
      exact key (aP y z k a.toNat) 0 0 (by omega) (fun e he => by rw [bz_0]; exact (decide_eq_false (fun g => absurd g.1 (Nat.not_lt_zero e))).symm)
    · exfalso
      have := g.2.2; omega
  · dsimp only [hx13, rR]
    exact h (-1) 0 P3 P8 ⟨fun g => by have := g.1; rw [ct] at this; exact absurd this (by decide), fun _ => rfl⟩ (fun q => by rw [ct] at q; exact absurd q (by decide)) (fun _ => rfl) Fr.rf
