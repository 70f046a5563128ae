theorem shiftS_n {y : SY} {z a b s v k : Int} {l : List SR} {f : Nat → Int} (h : skS y z a k s.toNat l f = none ∨ skS y z b k s.toNat l f = none ∨ ¬ ((0 ≤ s ∧ s < (l.length : Nat)) ∧ 0 ≤ v ∧ v ≤ 1)) : shiftS y z a b s v k l f = -1000000000000 := by
  unfold shiftS
  split
  · rename_i c
    rcases h with g | g | g
    · rw [g]
    · rw [g]; cases skS y z a k s.toNat l f <;> rfl
    · exact absurd c g
  · rfl
theorem skS_c {y : SY} {z a k : Int} {s : Nat} {l : List SR} {f : Nat → Int} (ct : cntS y a k = false) : skS y z a k s l f = none := skS_n (fun g => by have := g.1.1; rw [ct] at this; exact absurd this (by decide))
theorem C_shift {d w kb : Nat} {y : SY} {X : BXt} {z t a b s v k : Int} {l : List SR} {f : Nat → Int} {P0 P1 P2 P3 P4 P5 P6 P7 P8 P9 P10 P11 P12 : PS} {R : List PS} {Q : Option AV → List PS → Prop} (ha : -2147483648 ≤ a ∧ a < 2147483648) (hb : -2147483648 ≤ b ∧ b < 2147483648) (hs : -2147483648 ≤ s ∧ s < 2147483648) (hv : -2147483648 ≤ v ∧ v < 2147483648) (hk : -2147483648 ≤ k ∧ k < 2147483648) (hsk : gO P12 0 11 = some kb) (hB : BoC kb l f P2) (hF : FOK f) (hY : SyK y w z t) (hS : StC 0 y z t P3 P6) (hC : CsC X y z l f P3 P6) (hI : InjP y P6) (h : ∀ P3' P8', StC 0 y z t P3' P6 → CsC X y z l f P3' P6 → gN P3' = gN P3 → frN8 P8 P8' → Q (some (vL (iL (shiftS y z a b s v k l f)))) (P0 :: P1 :: P2 :: P3' :: P4 :: P5 :: P6 :: P7 :: P8' :: P9 :: P10 :: P11 :: P12 :: R)) : Tri 147 (d + 12) [vR 12 0 0, vI (iI a), vI (iI b), vI (iI s), vI (iI v), vI (iI k)] (P0 :: P1 :: P2 :: P3 :: P4 :: P5 :: P6 :: P7 :: P8 :: P9 :: P10 :: P11 :: P12 :: R) Q := by
  have hl := hB.1.2.1
  have gap : (-1000000000000 : Int64) = iL (-1000000000000) := rfl
  have caOf : ∀ {i : Nat} {a : Int} {P : PS}, (∀ e, e < 32 → bz (gI P i 10) e = (decide (e < nD (y.2.1 a.toNat) z) && ptB y z k a.toNat e)) → NcC i (qX y z k f a.toNat) (qY y z k f a.toNat) l (f 4) (aP y z k a.toNat) P → CaC i (y.2.1 a.toNat) z l f P := fun hx nc => Or.inr (by rw [(bX_q (f := f) hx).1, (bX_q (f := f) hx).2.1, (bX_q (f := f) hx).2.2]; exact nc)
  refine enX11_shift ?_
  unfold fX11_shift_0
  rw [gap]
  refine C_knownAndNamed rfl rfl ha hk hsk hB hF hY hS hC (fun i A3 A8 ct g1 hP1 hx1 nc1 fr1 f81 => ?_) (fun ct => ?_)
  · dsimp only [hx13, rR]
    refine ⟨rfl, ?_⟩
    have ap := cntS_lt ct
    have S1 := hS.any fr1
    have C1 := hC.up hI ap.2 g1 (caOf hx1 nc1) fr1
    refine C_knownAndNamed rfl rfl hb hk hsk hB hF hY S1 C1 (fun j B3 B8 ct2 g2 hP2 hx2 nc2 fr2 f82 => ?_) (fun ct2 => ?_)
    · dsimp only [hx13, rR]
      refine ⟨rfl, ?_⟩
      have bp := cntS_lt ct2
      have S2 := S1.any fr2
      have C2 := C1.up hI bp.2 g2 (caOf hx2 nc2) fr2
      have N2 : gN B3 = gN P3 := by rw [fr2.1.1, fr1.1.1]
      have F8 : frN8 P8 B8 := f81.trs f82
      have hP1' := hP1.any fr2
      have one : (∀ e, e < 32 → bz (gI B3 i 10) e = (decide (e < nD (y.2.1 a.toNat) z) && ptB y z k a.toNat e)) ∧ NcC i (qX y z k f a.toNat) (qY y z k f a.toNat) l (f 4) (aP y z k a.toNat) B3 := by
        by_cases c : i = j
        · subst c
          have e := hI a.toNat b.toNat ap.2 bp.2 i g1 g2
          rw [e]; exact ⟨hx2, nc2⟩
        · refine ⟨fun e he => ?_, nc1.oth fr2 c⟩
          rw [(fr2.1.2 i c).1]; exact hx1 e he
      have no : skS y z a k s.toNat l f = none ∨ skS y z b k s.toNat l f = none ∨ ¬ ((0 ≤ s ∧ s < (l.length : Nat)) ∧ 0 ≤ v ∧ v ≤ 1) → Q (some (vL (iL (-1000000000000)))) (P0 :: P1 :: P2 :: B3 :: P4 :: P5 :: P6 :: P7 :: B8 :: P9 :: P10 :: P11 :: P12 :: R) := fun g => by
        have := h B3 B8 S2 C2 N2 F8
        rw [shiftS_n g] at this; exact this
      have hsk' : gO P12 0 11 = some kb := hsk
      rw [hsk']
      dsimp only [oM]
      refine C_has rfl hs hB.1 ?_
      dsimp only [hx13, rI]
      rw [oI_dec]
      refine ⟨fun c => ?_, fun c => no (Or.inr (Or.inr (fun g => c g.1)))⟩
      have c' := Decidable.not_not.mp c
      have es : iI s = iI ((s.toNat : Nat) : Int) := congrArg iI (by omega)
      have vok : ∀ {a : Int}, ∀ u ∈ (nmS (qX y z k f a.toNat) (qY y z k f a.toNat) l (f 4) (aP y z k a.toNat)).1, VoK l u (aP y z k a.toNat) := fun u hu q' hq' => ((nmF_ok _ u (Nat.le_refl _) hu).1 q' hq').1
      rw [es]
      refine C_dotNamed (A := aP y z k a.toNat) (p := ptB y z k a.toNat) (F := (nmS (qX y z k f a.toNat) (qY y z k f a.toNat) l (f 4) (aP y z k a.toNat)).1) (l := l) (s := s.toNat) (by omega) hl (nD_le (y.2.1 a.toNat) z).1 one.1 (m6_le (nP y z k a.toNat)).2 vok one.2.1 ?_
      dsimp only [hx13, rI]
      rw [skS_e (z := z) (l := l) (f := f) (s := s.toNat) ct]
      refine C_dotNamed (A := aP y z k b.toNat) (p := ptB y z k b.toNat) (F := (nmS (qX y z k f b.toNat) (qY y z k f b.toNat) l (f 4) (aP y z k b.toNat)).1) (l := l) (s := s.toNat) (by omega) hl (nD_le (y.2.1 b.toNat) z).1 hx2 (m6_le (nP y z k b.toNat)).2 vok nc2.1 ?_
      dsimp only [hx13, rI]
      rw [skS_e (z := z) (l := l) (f := f) (s := s.toNat) ct2]
      cases hq : skS y z a k s.toNat l f with
      | none =>
        dsimp only [Option.elim]
        exact ⟨fun _ => no (Or.inl hq), fun g => absurd (by decide) g⟩
      | some q =>
        have q1 := ptD_lt (skS_lt (by omega) hq)
        have n1 := (nD_le (y.2.1 a.toNat) z).1
        dsimp only [Option.elim]
        cases hr : skS y z b k s.toNat l f with
        | none =>
          dsimp only [Option.elim]
          exact ⟨fun _ => no (Or.inr (Or.inl hr)), fun _ => ⟨fun _ => no (Or.inr (Or.inl hr)), fun _ => ⟨fun _ => no (Or.inr (Or.inl hr)), fun g => absurd (by decide) g⟩⟩⟩
        | some r =>
          have q2 := ptD_lt (skS_lt (by omega) hr)
          have n2 := (nD_le (y.2.1 b.toNat) z).1
          dsimp only [Option.elim]
          have p1 := hP1'.2.1 _ q1
          have p2 := hP2.2.1 _ q2
          have Ka := (hY.2.2 a.toNat ap.2).1
          have Kb := (hY.2.2 b.toNat bp.2).1
          have da := dt_ok Ka.2.2.2.1 Ka.2.2.1.1 q1
          have db := dt_ok Kb.2.2.2.1 Kb.2.2.1.1 q2
          have v0 : iI v = (0 : Int32) ↔ v = 0 := by rw [show (0 : Int32) = iI 0 from rfl]; exact iI_eq (by omega) (by omega) (by omega) (by omega)
          have v1 : iI v = (1 : Int32) ↔ v = 1 := by rw [show (1 : Int32) = iI 1 from rfl]; exact iI_eq (by omega) (by omega) (by omega) (by omega)
          have w1 : vp_in (iI (ptD y z k a.toNat q : Nat)) 12 := vpk (by omega) (by omega)
          have w2 : vp_in (iI (ptD y z k b.toNat r : Nat)) 12 := vpk (by omega) (by omega)
          rw [v0, v1, show (0 : Int32) = iI 0 from rfl, show (12 : Int32) = iI 12 from rfl, iI_lt (by omega) (by omega) (by omega) (by omega), iI_lt (by omega) (by omega) (by omega) (by omega), iI_lt (by omega) (by omega) (by omega) (by omega), iI_le (by omega) (by omega) (by omega) (by omega), iI_cl (a := (ptD y z k a.toNat q : Nat)) (by omega) (by omega), iI_cl (a := (ptD y z k b.toNat r : Nat)) (by omega) (by omega), Int.toNat_natCast, Int.toNat_natCast, p1.1, p1.2.1, p2.1, p2.2.1, iI_sub, iI_sub, iI_l (by omega) (by omega), iI_l (by omega) (by omega)]
          have hh := h B3 B8 S2 C2 N2 F8
          unfold shiftS at hh
          refine ⟨fun g => absurd g (by omega), fun _ => ⟨fun g => absurd g (by omega), fun _ => ⟨fun g => absurd g (by omega), fun _ => ⟨fun _ => ⟨fun z0 => ⟨w2, w1, ?_⟩, fun z0 => ⟨fun z1 => ⟨w2, w1, ?_⟩, fun z1 => no (Or.inr (Or.inr (by omega)))⟩⟩, fun g => absurd (by omega) g⟩⟩⟩⟩
          · rw [if_pos ⟨c', by omega, by omega⟩, hq, hr] at hh
            dsimp only at hh
            rw [if_pos z0] at hh; exact hh
          · rw [if_pos ⟨c', by omega, by omega⟩, hq, hr] at hh
            dsimp only at hh
            rw [if_neg z0] at hh; exact hh
    · dsimp only [hx13, rR]
      have := h A3 A8 S1 C1 fr1.1.1 f81
      rw [shiftS_n (Or.inr (Or.inl (skS_c ct2)))] at this
      exact this
  · dsimp only [hx13, rR]
    refine C_knownAndNamed rfl rfl hb hk hsk hB hF hY hS hC (fun j B3 B8 ct2 g2 hP2 hx2 nc2 fr2 f82 => ?_) (fun ct2 => ?_)
    · dsimp only [hx13, rR]
      have bp := cntS_lt ct2
      have := h B3 B8 (hS.any fr2) (hC.up hI bp.2 g2 (caOf hx2 nc2) fr2) fr2.1.1 f82
      rw [shiftS_n (Or.inl (skS_c ct))] at this
      exact ⟨rfl, this⟩
    · dsimp only [hx13, rR]
      have := h P3 P8 hS hC rfl Fr.rf
      rw [shiftS_n (Or.inl (skS_c ct))] at this
      exact this
