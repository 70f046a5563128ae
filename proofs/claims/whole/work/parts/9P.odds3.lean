noncomputable def oddsS (y : SY) (z a i v k : Int) (l : List SR) (f : Nat → Int) : Int := if dcd (hasN y z a i k l f ∧ 0 ≤ v ∧ v ≤ 1) = true then (if v = 0 then ((oddU y z k l f a.toNat i.toNat / Nat.gcd (oddU y z k l f a.toNat i.toNat) (oddL y z k l f a.toNat i.toNat) : Nat) : Int) else ((oddL y z k l f a.toNat i.toNat / Nat.gcd (oddU y z k l f a.toNat i.toNat) (oddL y z k l f a.toNat i.toNat) : Nat) : Int)) else -1000000000000
/-- does its only NAMING tell -/
def telP (y : SY) (z k : Int) (l : List SR) (f : Nat → Int) (p : Nat) : Prop := (nmP y z k l f p).1.length = 1 ∧ oddU y z k l f p 0 * (f 5).toNat ≤ oddL y z k l f p 0
noncomputable def tellS (y : SY) (z a k : Int) (l : List SR) (f : Nat → Int) : Int := if cntS y a k = true then (if dcd (telP y z k l f a.toNat) = true then 1 else 0) else -1
theorem M_odds {d w : Nat} {y : SY} {z t a i v k : Int} {l : List SR} {f : Nat → Int} {P : PS} {R : List PS} {Q : Option AV → List PS → Prop} (ha : -2147483648 ≤ a ∧ a < 2147483648) (hi : -2147483648 ≤ i ∧ i < 2147483648) (hv : -2147483648 ≤ v ∧ v < 2147483648) (hk : -2147483648 ≤ k ∧ k < 2147483648) (hS : StM y w z t P) (hB : BoM l f P) (hF : FOK f) (h : ∀ P', Fr snI [50, 51] snA [] P P' → Q (some (vL (iL (oddsS y z a i v k l f)))) (P' :: R)) : Tri 239 (d + 6) [vR 0 0 0, vI (iI a), vI (iI i), vI (iI v), vI (iI k)] (P :: R) Q := by
  have gap : (-1000000000000 : Int64) = iL (-1000000000000) := rfl
  refine enX12_odds ?_
  unfold fX12_odds_0
  unfold oddsS at h
  have v0 : iI v < (0 : Int32) ↔ v < 0 := by rw [show (0 : Int32) = iI 0 from rfl]; exact iI_lt (by omega) (by omega) (by omega) (by omega)
  have v1 : (1 : Int32) < iI v ↔ 1 < v := by rw [show (1 : Int32) = iI 1 from rfl]; exact iI_lt (by omega) (by omega) (by omega) (by omega)
  have v2 : iI v = (0 : Int32) ↔ v = 0 := by rw [show (0 : Int32) = iI 0 from rfl]; exact iI_eq (by omega) (by omega) (by omega) (by omega)
  rw [v0, v1, v2, gap]
  have no : ∀ P', ¬ (hasN y z a i k l f ∧ 0 ≤ v ∧ v ≤ 1) → Fr snI [50, 51] snA [] P P' → Q (some (vL (iL (-1000000000000)))) (P' :: R) := fun P' c fP => by
    have := h P' fP
    rw [if_neg (fun g => c (dcd_t.mp g))] at this; exact this
  refine ⟨fun c => no P (by omega) Fr.rf, fun c => ⟨fun c1 => no P (by omega) Fr.rf, fun c1 => ?_⟩⟩
  refine M_hasNaming rfl rfl rfl ha hi hk hS hB hF (fun B hN nB fB => ?_) (fun B hN fB => ?_)
  · dsimp only [hx1, rI]
    refine ⟨fun _ => ?_, fun g => absurd g (by decide)⟩
    have i0 := hN.2
    refine M_seekOdds (i := i.toNat) (congrArg iI (by omega)) nB (by omega) (fun C u1 u2 fC => ?_)
    dsimp only [hx1, rV]
    have hh := h C (fB.tr fC (by simp) (by simp) (by simp) (by simp) (by simp) (by simp) (by simp) (by simp))
    rw [if_pos (dcd_t.mpr ⟨hN, by omega, by omega⟩)] at hh
    refine ⟨fun c2 => ?_, fun c2 => ?_⟩
    · rw [if_neg c2] at hh
      rw [show gL C 0 51 = _ from u2]; exact hh
    · rw [if_pos c2] at hh
      rw [show gL C 0 50 = _ from u1]; exact hh
  · dsimp only [hx1, rI]
    exact ⟨fun g => absurd rfl g, fun _ => no B (fun g => hN g.1) (fB.mono (by simp) (by simp) (by simp) (by simp))⟩
theorem odd_bd {y : SY} {z k : Int} {l : List SR} {f : Nat → Int} {p i : Nat} (hl : l.length ≤ 32) (hi : i < (nmP y z k l f p).1.length) : oddU y z k l f p i ≤ 31000000000000 ∧ oddL y z k l f p i ≤ 31000000000000 ∧ 0 < oddL y z k l f p i := by
  have hA : aP y z k p ≤ 6 ∧ aP y z k p ≤ nP y z k p := m6_le (nP y z k p)
  have nc := nmd_cnt (X := qX y z k f p) (Y := qY y z k f p) (l := l) (o := f 4) (A := aP y z k p) (i := i) hl hA.1 hi
  have pn := prN l.length hl
  have p6 := (p496 6 (by omega)).1
  exact ⟨Nat.le_trans (odU_le (fun a b => fitN_496 _ _ l (f 4) a b hl) 6) p6, Nat.le_trans (odL_le pn.1 6) p6, odL_pos (by have := pn.2.2 (by omega); omega) 6⟩
theorem tel_red {u l b : Nat} (hl : 0 < l) : u / Nat.gcd u l * b ≤ l / Nat.gcd u l ↔ u * b ≤ l := by
  have gp : 0 < Nat.gcd u l := Nat.gcd_pos_of_pos_right u hl
  have eu : Nat.gcd u l * (u / Nat.gcd u l) = u := Nat.mul_div_cancel' (Nat.gcd_dvd_left u l)
  have el : Nat.gcd u l * (l / Nat.gcd u l) = l := Nat.mul_div_cancel' (Nat.gcd_dvd_right u l)
  generalize u / Nat.gcd u l = u' at *
  generalize l / Nat.gcd u l = l' at *
  generalize Nat.gcd u l = g at *
  subst eu el
  rw [Nat.mul_assoc]
  exact ⟨fun h => Nat.mul_le_mul_left g h, fun h => Nat.le_of_mul_le_mul_left h gp⟩
theorem M_tells {d w p : Nat} {y : SY} {z k : Int} {l : List SR} {f : Nat → Int} {P : PS} {R : List PS} {Q : Option AV → List PS → Prop} (hN : NmM y z k p w l f P) (h : ∀ P', Fr [] [50, 51] [] [] P P' → Q (some (vI (oI (dcd (telP y z k l f p))))) (P' :: R)) : Tri 240 (d + 4) [vR 0 0 0] (P :: R) Q := by
  have hl := hN.1.2.2.2.1.1.2.1
  have hF := hN.1.2.2.1
  have h5 := hF.2.2.2.2.2.1
  have lle : (nmP y z k l f p).1.length ≤ 200 := (nmF_le (qX y z k f p) (qY y z k f p) l (f 4) (aP y z k p) (aP y z k p)).1
  refine enX12_tells ?_
  unfold fX12_tells_0
  have no : ∀ P', ¬ telP y z k l f p → Fr [] [50, 51] [] [] P P' → Q (some (vI 0)) (P' :: R) := fun P' c fr => by
    have := h P' fr
    rw [dcd_f.mpr c] at this; exact this
  have n1 := hN.2.1.1
  have z1 : (gI P 0 48 = (1 : Int32)) ↔ (nmP y z k l f p).1.length = 1 := by
    rw [show gI P 0 48 = _ from n1, show (1 : Int32) = iI 1 from rfl, iI_eq (by omega) (by omega) (by omega) (by omega)]; omega
  rw [z1]
  refine ⟨fun c => ?_, fun c => ⟨Or.inl rfl, no P (fun g => c g.1) Fr.rf⟩⟩
  have bd := odd_bd (y := y) (z := z) (k := k) (f := f) (p := p) (i := 0) hl (by omega)
  refine M_seekOdds (i := 0) rfl hN (by omega) (fun C u1 u2 fC => ?_)
  dsimp only [hx1, rV]
  have B1 := (hN.same fC).1.2.2.2.1
  rw [show gL C 0 50 = _ from u1, show gL C 0 51 = _ from u2, show ((5 : Int32)).toNatClampNeg = 5 from rfl, show gA C 0 12 5 = iI (f 5) from B1.2 5 (by omega), iI_l (by omega) (by omega), iL_mul, lcmp_gt]
  have tr := tel_red (u := oddU y z k l f p 0) (l := oddL y z k l f p 0) (b := (f 5).toNat) bd.2.2
  have d1 := Nat.div_le_self (oddU y z k l f p 0) (Nat.gcd (oddU y z k l f p 0) (oddL y z k l f p 0))
  have d2 := Nat.div_le_self (oddL y z k l f p 0) (Nat.gcd (oddU y z k l f p 0) (oddL y z k l f p 0))
  have m1 : oddU y z k l f p 0 / Nat.gcd (oddU y z k l f p 0) (oddL y z k l f p 0) * (f 5).toNat ≤ 31000000000000 * 9999 := Nat.mul_le_mul (by omega) (by omega)
  have e5 : ((oddU y z k l f p 0 / Nat.gcd (oddU y z k l f p 0) (oddL y z k l f p 0) : Nat) : Int) * f 5 = ((oddU y z k l f p 0 / Nat.gcd (oddU y z k l f p 0) (oddL y z k l f p 0) * (f 5).toNat : Nat) : Int) := by
    rw [Int.natCast_mul, show (((f 5).toNat : Nat) : Int) = f 5 by omega]
  rw [e5]
  clear e5 u1 u2
  generalize oddU y z k l f p 0 / Nat.gcd (oddU y z k l f p 0) (oddL y z k l f p 0) * (f 5).toNat = uu at *
  generalize oddL y z k l f p 0 / Nat.gcd (oddU y z k l f p 0) (oddL y z k l f p 0) = ll at *
  rw [iL_lt (by omega) (by omega) (by omega) (by omega)]
  refine ⟨vpk (k := 5) (by omega) (by omega), fun c1 => ⟨Or.inl rfl, no C (fun g => by have := tr.mpr g.2; omega) fC⟩, fun c1 => ⟨Or.inr rfl, ?_⟩⟩
  have := h C fC
  rw [dcd_t.mpr ⟨c, tr.mp (by omega)⟩] at this; exact this
theorem M_tell {d w : Nat} {y : SY} {z t a k : Int} {l : List SR} {f : Nat → Int} {P : PS} {R : List PS} {Q : Option AV → List PS → Prop} (ha : -2147483648 ≤ a ∧ a < 2147483648) (hk : -2147483648 ≤ k ∧ k < 2147483648) (hS : StM y w z t P) (hB : BoM l f P) (hF : FOK f) (h : ∀ P', Fr snI [50, 51] snA [] P P' → Q (some (vI (iI (tellS y z a k l f)))) (P' :: R)) : Tri 241 (d + 5) [vR 0 0 0, vI (iI a), vI (iI k)] (P :: R) Q := by
  refine enX12_told ?_
  unfold fX12_told_0
  unfold tellS at h
  refine M_counts rfl rfl ha hk hS ?_
  dsimp only [hx1, rI]
  rw [oI_z]
  refine ⟨fun c => ?_, fun c => ?_⟩
  · have ct : cntS y a k = true := by simpa using c
    have ap := cntS_lt ct
    refine M_seekNamings (p := a.toNat) (congrArg iI (by omega)) rfl hk hS ap.2 hB hF (fun B nB fB => ?_)
    dsimp only [hx1, rV]
    refine M_tells nB (fun C fC => ?_)
    dsimp only [hx1, rI]
    have hh := h C (fB.tr fC (by simp) (by simp) (by simp) (by simp) (by simp) (by simp) (by simp) (by simp))
    rw [if_pos ct] at hh
    rw [oI_z]
    refine ⟨fun c1 => ?_, fun c1 => ?_⟩
    · rw [c1] at hh; exact hh
    · rw [show dcd (telP y z k l f a.toNat) = true by simpa using c1] at hh; exact hh
  · have := h P Fr.rf
    rw [c] at this; exact this
/-! ===== ODDS, TOLD: the class ===== -/
theorem C_kn {d w kb : Nat} {y : SY} {X : BXt} {z t a k : Int} {l : List SR} {f : Nat → Int} {x1 x2 : Int32} {P0 P1 P2 P3 P4 P5 P6 P7 P8 P9 P10 P11 P12 : PS} {R : List PS} {Q : Option AV → List PS → Prop} (e1 : x1 = iI a) (e2 : x2 = iI k) (ha : -2147483648 ≤ a ∧ a < 2147483648) (hk : -2147483648 ≤ k ∧ k < 2147483648) (hsk : gO P12 0 11 = some kb) (hB : BoC kb l f P2) (hF : FOK f) (hY : SyK y w z t) (hS : StC 0 y z t P3 P6) (hC : CsC X y z l f P3 P6) (hI : InjP y P6) (hy : ∀ i P3' P8', cntS y a k = true → PiC i (y.2.1 a.toNat) z P3' → (∀ e, e < 32 → bz (gI P3' i 10) e = (decide (e < nD (y.2.1 a.toNat) z) && ptB y z k a.toNat e)) → NcC i (qX y z k f a.toNat) (qY y z k f a.toNat) l (f 4) (aP y z k a.toNat) P3' → StC 0 y z t P3' P6 → CsC X y z l f P3' P6 → gN P3' = gN P3 → frN8 P8 P8' → Q (some (vR 3 i 0)) (P0 :: P1 :: P2 :: P3' :: P4 :: P5 :: P6 :: P7 :: P8' :: P9 :: P10 :: P11 :: P12 :: R)) (hn : cntS y a k = false → Q (some vN) (P0 :: P1 :: P2 :: P3 :: P4 :: P5 :: P6 :: P7 :: P8 :: P9 :: P10 :: P11 :: P12 :: R)) : Tri 159 (d + 11) [vR 12 0 0, vI x1, vI x2] (P0 :: P1 :: P2 :: P3 :: P4 :: P5 :: P6 :: P7 :: P8 :: P9 :: P10 :: P11 :: P12 :: R) Q := by
  refine C_knownAndNamed e1 e2 ha hk hsk hB hF hY hS hC (fun i P3' P8' ct g2 hP hx nc f3 f8 => ?_) hn
  have ca : CaC i (y.2.1 a.toNat) z l f P3' := Or.inr (by rw [(bX_q (f := f) hx).1, (bX_q (f := f) hx).2.1, (bX_q (f := f) hx).2.2]; exact nc)
  exact hy i P3' P8' ct hP hx nc (hS.any f3) (hC.up hI (cntS_lt ct).2 g2 ca f3) f3.1.1 f8
theorem vokS {X Y : Nat → Int} {l : List SR} {o : Int} {A : Nat} : ∀ u ∈ (nmS X Y l o A).1, VoK l u A := fun u hu q' hq' => ((nmF_ok _ u (Nat.le_refl _) hu).1 q' hq').1
theorem C_oddsUpper {d j A i : Nat} {X Y : Nat → Int} {l : List SR} {o : Int} {x : Int32} {P0 P1 P2 P3 : PS} {R : List PS} {Q : Option AV → List PS → Prop} (ex : x = iI (i : Nat)) (hl : l.length ≤ 32) (hA : A ≤ 6) (hi : i < (nmS X Y l o A).1.length) (hN : NcC j X Y l o A P3) (h : Q (some (vL (iL (odU (fitN X Y l o) (fun q => if q < A then ((nmS X Y l o A).1.getD i (fun _ => 32)) q else 32) 6 : Nat)))) (P0 :: P1 :: P2 :: P3 :: R)) : Tri 47 (d + 2) [vR 3 j 0, vI x] (P0 :: P1 :: P2 :: P3 :: R) Q := by
  subst ex
  have lle := (nmF_le X Y l o A A).1
  have lle' : (nmS X Y l o A).1.length ≤ 200 := lle
  have F496 : ∀ a b, fitN X Y l o a b ≤ 496 := fun a b => fitN_496 _ _ l o a b hl
  refine enX3_oddsUpper ?_
  unfold fX3_oddsUpper_0
  have vk := vokS (X := X) (Y := Y) (l := l) (o := o) (A := A)
  have g32 : ∀ q, (if q < A then ((nmS X Y l o A).1.getD i (fun _ => 32)) q else 32) = 32 ∨ (if q < A then ((nmS X Y l o A).1.getD i (fun _ => 32)) q else 32) < l.length := fun q => by
    by_cases c : q < A
    · rw [if_pos c]
      refine vk _ ?_ q c
      rw [List.getD_eq_getElem?_getD, List.getElem?_eq_getElem hi]
      exact List.getElem_mem hi
    · rw [if_neg c]; exact Or.inl rfl
  have key : ∀ (m q : Nat), q + m = 6 → cX3_oddsUpper_8 (0, 0, 0, 0) (d + 1) j (iI (i : Nat)) (iL (odU (fitN X Y l o) (fun q => if q < A then ((nmS X Y l o A).1.getD i (fun _ => 32)) q else 32) q : Nat)) (iI (bfN (fun q => if q < A then ((nmS X Y l o A).1.getD i (fun _ => 32)) q else 32) q)) (iI (q : Nat)) P0 P1 P2 P3 R Q := by
    intro m
    induction m with
    | zero =>
      intro q hq
      have : q = 6 := by omega
      subst this
      refine gX3_oddsUpper_8 ?_
      unfold fX3_oddsUpper_8
      exact ⟨fun _ => h, fun c => absurd (by decide) c⟩
    | succ m ih =>
      intro q hq
      have bf := bfN_ok (fun q => if q < A then ((nmS X Y l o A).1.getD i (fun _ => 32)) q else 32) q
      have st := ih (q + 1) (by omega)
      have gq := g32 q
      refine gX3_oddsUpper_8 ?_
      unfold fX3_oddsUpper_8
      rw [show (6 : Int32) = iI 6 from rfl, iI_le (by omega) (by omega) (by omega) (by omega), show iI (q : Nat) + 1 = iI ((q + 1 : Nat)) from iI_add (q : Nat) 1]
      refine ⟨fun c => absurd c (by omega), fun _ => C_starOf rfl rfl (by omega) (by omega) hl vk hN.1 ?_⟩
      dsimp only [hx4, rI]
      rw [Int.toNat_natCast, Int.toNat_natCast, show (-1 : Int32) = iI (-1) from rfl]
      by_cases c : (if q < A then ((nmS X Y l o A).1.getD i (fun _ => 32)) q else 32) = 32
      · rw [if_neg (fun g => g.2.2 c)]
        refine ⟨fun _ => ?_, fun g => absurd rfl g⟩
        rw [odU_s, bfN_s] at st
        rw [if_pos (Or.inl c), if_pos c] at st; exact st
      · rw [if_pos ⟨by omega, by omega, c⟩, iI_eq (by omega) (by omega) (by omega) (by omega), iI_eq (by omega) (by omega) (by omega) (by omega)]
        refine ⟨fun g => absurd g (by omega), fun _ => ⟨fun c1 => ?_, fun c1 => ?_⟩⟩
        · have qA : q < A := Classical.byContradiction (fun g => c (if_neg g))
          refine C_pairOf (a := (bfN (fun q => if q < A then ((nmS X Y l o A).1.getD i (fun _ => 32)) q else 32) q).toNat) (b := q) (congrArg iI (by omega)) rfl (by omega) (by omega) ?_
          dsimp only [hx4, rI]
          have pk := prO_ok q (by omega) (bfN (fun q => if q < A then ((nmS X Y l o A).1.getD i (fun _ => 32)) q else 32) q).toNat (by omega)
          have e8 := hN.2.2 q qA (bfN (fun q => if q < A then ((nmS X Y l o A).1.getD i (fun _ => 32)) q else 32) q).toNat (by omega)
          unfold prO at e8 pk
          have f4 := F496 (bfN (fun q => if q < A then ((nmS X Y l o A).1.getD i (fun _ => 32)) q else 32) q).toNat q
          rw [iI_cl (a := ((_ : Nat) : Int)) (by omega) (by omega), Int.toNat_natCast, show gA P3 j 8 _ = _ from e8, iI_l (by omega) (by omega), iL_mul, ← Int.natCast_mul]
          refine ⟨vpk (by omega) (by omega), ?_⟩
          rw [odU_s, bfN_s] at st
          rw [if_neg (by rintro (g | g); exact c g; omega), if_neg c] at st; exact st
        · rw [show (1 : Int64) = iL 1 from rfl, iL_mul, Int.mul_one]
          rw [odU_s, bfN_s] at st
          rw [if_pos (Or.inr (by omega)), if_neg c] at st; exact st
  exact key 6 0 (by omega)
theorem C_oddsLower {d j G N : Nat} {x : Int64} {P0 P1 P2 P3 : PS} {R : List PS} {Q : Option AV → List PS → Prop} (ex : x = iL (N : Nat)) (hG : gI P3 j 12 = iI (G : Nat)) (h1 : 1 ≤ G) (h6 : G ≤ 6) (h : Q (some (vL (iL ((N ^ (G - 1) : Nat))))) (P0 :: P1 :: P2 :: P3 :: R)) : Tri 48 d [vR 3 j 0, vL x] (P0 :: P1 :: P2 :: P3 :: R) Q := by
  subst ex
  refine enX3_oddsLower ?_
  unfold fX3_oddsLower_0
  have hG' : gI P3 j 12 = iI (G : Nat) := hG
  have key : ∀ (m q : Nat), q + m = G → 1 ≤ q → cX3_oddsLower_5 (0, 0, 0, 0) d j (iL (N : Nat)) (iL ((N ^ (q - 1) : Nat))) (iI (q : Nat)) P0 P1 P2 P3 R Q := by
    intro m
    induction m with
    | zero =>
      intro q hq h0
      refine gX3_oddsLower_5 ?_
      unfold fX3_oddsLower_5
      rw [hG', iI_le (by omega) (by omega) (by omega) (by omega)]
      have : q = G := by omega
      subst this
      exact ⟨fun _ => h, fun c => absurd (by omega) c⟩
    | succ m ih =>
      intro q hq h0
      have st := ih (q + 1) (by omega) (by omega)
      rw [show q + 1 - 1 = (q - 1) + 1 by omega, Nat.pow_succ] at st
      refine gX3_oddsLower_5 ?_
      unfold fX3_oddsLower_5
      rw [hG', iI_le (by omega) (by omega) (by omega) (by omega), show (6 : Int32) = iI 6 from rfl, iI_le (by omega) (by omega) (by omega) (by omega), show iI (q : Nat) + 1 = iI ((q + 1 : Nat)) from iI_add (q : Nat) 1, iL_mul, ← Int.natCast_mul]
      exact ⟨fun c => absurd c (by omega), fun _ => ⟨fun c => absurd c (by omega), fun _ => st⟩⟩
  exact key (G - 1) 1 (by omega) (by omega)
theorem C_pairs {d j : Nat} {l : List SR} {P0 P1 P2 : PS} {R : List PS} {Q : Option AV → List PS → Prop} (hS : SsC j l P2) (h : Q (some (vL (iL ((l.length * (l.length - 1) / 2 : Nat))))) (P0 :: P1 :: P2 :: R)) : Tri 3 d [vR 2 j 0] (P0 :: P1 :: P2 :: R) Q := by
  have hl := hS.2.1
  refine enX0_pairs ?_
  unfold fX0_pairs_0
  rw [show gI P2 j 5 = _ from hS.1, iI_l (by omega) (by omega), pairL l.length hl]
  exact ⟨by decide, h⟩
