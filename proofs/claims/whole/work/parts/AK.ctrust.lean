/-! ===== TRUST, BELIEVED: the class ===== -/
theorem FrA.tr {as : List Nat} {P P' P'' : PS} (h : FrA as P P') (h' : FrA as P' P'') : FrA as P P'' := ⟨h.1.trs h'.1, fun j a => (h'.2.1 j a).trans (h.2.1 j a), fun j a i => (h'.2.2 j a i).trans (h.2.2 j a i)⟩
def TqC (A : Nat → Int32) (m : Nat) (P : PS) : Prop := ∀ j, 1 ≤ j → j ≤ m → gA P 0 9 (j - 1) = A j
theorem TqC.up {A : Nat → Int32} {m n : Nat} {v : Int32} {P : PS} (h : TqC A m P) (hn : n = m) (hv : v = A (n + 1)) : TqC A (n + 1) (sA P 0 9 n v) := fun j h0 h8 => by
  rw [gA_sA, if_pos rfl, if_pos rfl]
  by_cases c : j - 1 = n
  · rw [if_pos c, hv, show n + 1 = j by omega]
  · rw [if_neg c]; exact h j h0 (by omega)
theorem C_t47 {d j w kb kl u p : Nat} {y : SY} {z t k : Int} {l : List SR} {f : Nat → Int} {rs : List RLt} {s : Int64} {P0 P1 P2 P3 P4 P5 P6 P7 P8 P9 P10 P11 P12 : PS} {R : List PS} {Q : Option AV → List PS → Prop} (hk : -2147483648 ≤ k ∧ k < 2147483648) (hsk : gO P12 0 11 = some kb) (hB : BoC kb l f P2) (hF : FOK f) (hY : SyK y w z t) (hS : StC 0 y z t P3 P6) (hp : p < y.1) (hP : PiC j (y.2.1 p) z P3) (nc : NcC j (qX y z k f p) (qY y z k f p) l (f 4) (aP y z k p) P3) (hlw : gO P12 0 13 = some kl) (hL : LwC kl rs u P4) (hK : RsK rs) (hV : VC (cds rs)) (hl : (cds rs).length ≤ 400) (hs : s.toInt32 = qtS y z k l f p 7) (h : ∀ P4' P12', frK kl P4 P4' → FrA [9] P12 P12' → Q (some (vI (iI (trS (qtS y z k l f p) rs)))) (P0 :: P1 :: P2 :: P3 :: P4' :: P5 :: P6 :: P7 :: P8 :: P9 :: P10 :: P11 :: P12' :: R)) : cX11_trustOf_47 (0, 0, 0, 0) (d + 3) (iI k) j s P0 P1 P2 P3 P4 P5 P6 P7 P8 P9 P10 P11 P12 R Q := by
  have n12 := (nD_le (y.2.1 p) z).1
  refine gX11_trustOf_47 ?_
  unfold fX11_trustOf_47
  rw [show (0 : Int32).toNatClampNeg = 0 from rfl, show (1 : Int32).toNatClampNeg = 1 from rfl, show (2 : Int32).toNatClampNeg = 2 from rfl, show gI P3 j 5 = _ from hP.1, show gI P3 j 12 = _ from nc.2.1, show gI P3 j 11 = _ from nc.1.1]
  refine ⟨vpk (k := 0) (by omega) (by omega), vpk (k := 1) (by omega) (by omega), vpk (k := 2) (by omega) (by omega), ?_⟩
  have f1 : FrA [9] P12 (sA (sA (sA P12 0 9 0 (iI (nD (y.2.1 p) z : Nat))) 0 9 1 (iI ((nmP y z k l f p).2 : Nat))) 0 9 2 (iI ((nmP y z k l f p).1.length : Nat))) := ((FrA.rf.sA (by simp)).sA (by simp)).sA (by simp)
  have t0 : TqC (qtS y z k l f p) 0 P12 := fun j h1 h0 => absurd h0 (by omega)
  have t1 := ((t0.up (n := 0) (v := iI (nD (y.2.1 p) z : Nat)) rfl rfl).up (n := 1) (v := iI ((nmP y z k l f p).2 : Nat)) rfl rfl).up (n := 2) (v := iI ((nmP y z k l f p).1.length : Nat)) rfl rfl
  refine C_specksOf hk hY hS hp hP (fun v hv => ?_)
  dsimp only [hx13, rI]
  refine J_bitCount ?_
  dsimp only [hx13, rI]
  rw [bcn_cut (by omega) hv, show (3 : Int32).toNatClampNeg = 3 from rfl]
  refine ⟨vpk (k := 3) (by omega) (by omega), ?_⟩
  have f2 := f1.sA (a := 9) (i := 3) (v := iI (nK y z k p 2 : Nat)) (by simp)
  have t2 := t1.up (n := 3) (v := iI (nK y z k p 2 : Nat)) rfl rfl
  refine J_bitCount ?_
  dsimp only [hx13, rI]
  rw [bcn_cut (by omega) hP.2.2.1, ← nK_sm (k := k), show (4 : Int32).toNatClampNeg = 4 from rfl]
  refine ⟨vpk (k := 4) (by omega) (by omega), ?_⟩
  have f3 := f2.sA (a := 9) (i := 4) (v := iI (nK y z k p 1 : Nat)) (by simp)
  have t3 := t2.up (n := 4) (v := iI (nK y z k p 1 : Nat)) rfl rfl
  change TqC (qtS y z k l f p) 5 (sA (sA (sA (sA (sA P12 0 9 0 (iI (nD (y.2.1 p) z : Nat))) 0 9 1 (iI ((nmP y z k l f p).2 : Nat))) 0 9 2 (iI ((nmP y z k l f p).1.length : Nat))) 0 9 3 (iI (nK y z k p 2 : Nat))) 0 9 4 (iI (nK y z k p 1 : Nat))) at t3
  change Tri 160 _ _ (P0 :: P1 :: P2 :: P3 :: P4 :: P5 :: P6 :: P7 :: P8 :: P9 :: P10 :: P11 :: (sA (sA (sA (sA (sA P12 0 9 0 (iI (nD (y.2.1 p) z : Nat))) 0 9 1 (iI ((nmP y z k l f p).2 : Nat))) 0 9 2 (iI ((nmP y z k l f p).1.length : Nat))) 0 9 3 (iI (nK y z k p 2 : Nat))) 0 9 4 (iI (nK y z k p 1 : Nat))) :: R) _
  clear f1 f2 t1 t2
  generalize sA (sA (sA (sA (sA P12 0 9 0 (iI (nD (y.2.1 p) z : Nat))) 0 9 1 (iI ((nmP y z k l f p).2 : Nat))) 0 9 2 (iI ((nmP y z k l f p).1.length : Nat))) 0 9 3 (iI (nK y z k p 2 : Nat))) 0 9 4 (iI (nK y z k p 1 : Nat)) = A at *
  refine C_toldOf (by rw [f3.2.1]; exact hsk) hB hF nc ?_
  dsimp only [hx13, rI]
  rw [show (5 : Int32).toNatClampNeg = 5 from rfl, show (6 : Int32).toNatClampNeg = 6 from rfl, show (7 : Int32).toNatClampNeg = 7 from rfl, hs, show gI P3 j 7 = _ from hP.2.2.2.2, show gO A 0 13 = some kl by rw [f3.2.1]; exact hlw]
  refine ⟨vpk (k := 5) (by omega) (by omega), vpk (k := 6) (by omega) (by omega), vpk (k := 7) (by omega) (by omega), ?_⟩
  dsimp only [oM]
  have f4 := ((f3.sA (a := 9) (i := 5) (v := oI (dcd (telP y z k l f p))) (by simp)).sA (a := 9) (i := 6) (v := qtS y z k l f p 7) (by simp)).sA (a := 9) (i := 7) (v := iI (smB (fun _ => true) (fun i => (dt (y.2.1 p) z i).2.2.1) (nD (y.2.1 p) z))) (by simp)
  have t4 := ((t3.up (n := 5) (v := oI (dcd (telP y z k l f p))) rfl rfl).up (n := 6) (v := qtS y z k l f p 7) rfl rfl).up (n := 7) (v := iI (smB (fun _ => true) (fun i => (dt (y.2.1 p) z i).2.2.1) (nD (y.2.1 p) z))) rfl rfl
  refine C_weigh hL t4 hK hV hl (fun B4 fB => ?_)
  dsimp only [hx13, rI]
  exact h B4 _ fB f4
theorem C_trustOf {d w kb kl u : Nat} {y : SY} {X : BXt} {z t a k : Int} {l : List SR} {f : Nat → Int} {rs : List RLt} {x v : Int32} {P0 P1 P2 P3 P4 P5 P6 P7 P8 P9 P10 P11 P12 : PS} {R : List PS} {Q : Option AV → List PS → Prop} (ex : x = iI a) (ev : v = iI k) (ha : -2147483648 ≤ a ∧ a < 2147483648) (hk : -2147483648 ≤ k ∧ k < 2147483648) (hsk : gO P12 0 11 = some kb) (hB : BoC kb l f P2) (hF : FOK f) (hY : SyK y w z t) (hS : StC 0 y z t P3 P6) (hC : CsC X y z l f P3 P6) (hI : InjP y P6) (hlw : gO P12 0 13 = some kl) (hL : LwC kl rs u P4) (hK : RsK rs) (hV : VC (cds rs)) (hl : (cds rs).length ≤ 400) (h : ∀ P3' P4' P7' P8' P12', StC 0 y z t P3' P6 → CsC X y z l f P3' P6 → gN P3' = gN P3 → frK kl P4 P4' → Fr [] cuL [] [] P7 P7' → frN8 P8 P8' → FrA [9] P12 P12' → Q (some (vI (iI (trustS y z a k l f rs)))) (P0 :: P1 :: P2 :: P3' :: P4' :: P5 :: P6 :: P7' :: P8' :: P9 :: P10 :: P11 :: P12' :: R)) : Tri 164 (d + 12) [vR 12 0 0, vI x, vI v] (P0 :: P1 :: P2 :: P3 :: P4 :: P5 :: P6 :: P7 :: P8 :: P9 :: P10 :: P11 :: P12 :: R) Q := by
  subst ex ev
  have hls := hB.1.2.1
  refine enX11_trustOf ?_
  unfold fX11_trustOf_0
  refine C_kn rfl rfl ha hk hsk hB hF hY hS hC hI (fun j A3 A8 ct hP hx nc S1 C1 n1 f8 => ?_) (fun ct => ?_)
  · dsimp only [hx13, rR]
    have ap := cntS_lt ct
    have hKp := (hY.2.2 a.toNat ap.2).1
    have ts : trustS y z a k l f rs = trS (qtS y z k l f a.toNat) rs := by unfold trustS; rw [if_pos ct]
    refine ⟨rfl, C_hasNaming (i := 0) rfl (by omega) nc.1 ?_⟩
    dsimp only [hx13, rI]
    rw [oI_dec]
    refine ⟨fun c => ?_, fun c => ?_⟩
    · refine C_t47 hk hsk hB hF hY S1 ap.2 hP nc hlw hL hK hV hl ?_ (fun B4 B12 fB fA => ?_)
      · rw [qt_7, if_pos (show (nmP y z k l f a.toNat).1.length = 0 by show (nmS (qX y z k f a.toNat) (qY y z k f a.toNat) l (f 4) (aP y z k a.toNat)).1.length = 0; omega)]; rfl
      · have hh := h A3 B4 P7 A8 B12 S1 C1 n1 fB Fr.rf f8 fA
        rw [ts] at hh; exact hh
    · have c' := Decidable.not_not.mp c
      have lt : 0 < (nmP y z k l f a.toNat).1.length := by
        show 0 < (nmS (qX y z k f a.toNat) (qY y z k f a.toNat) l (f 4) (aP y z k a.toNat)).1.length
        omega
      rw [show gO P12 0 11 = some kb from hsk]
      dsimp only [oM]
      refine C_find (i := 0) rfl hB hF hKp hP hx nc lt (fun B7 u1 u2 f7 => ?_)
      dsimp only [hx13, rV]
      refine C_stretchOr hKp hF hB.1.2.1 hB.1.2.2.1 lt u2 ?_
      dsimp only [hx13, rL]
      refine C_t47 hk hsk hB hF hY S1 ap.2 hP nc hlw hL hK hV hl ?_ (fun B4 B12 fB fA => ?_)
      · rw [qt_7, if_neg (by omega)]
      · have hh := h A3 B4 B7 A8 B12 S1 C1 n1 fB f7 f8 fA
        rw [ts] at hh; exact hh
  · dsimp only [hx13, rR]
    have hh := h P3 P4 P7 P8 P12 hS hC rfl frK.rf Fr.rf Fr.rf FrA.rf
    rw [show trustS y z a k l f rs = -1 by unfold trustS; rw [if_neg (by rw [ct]; decide)]] at hh
    exact hh
theorem C_trust {d w kb kl u : Nat} {y : SY} {X : BXt} {z t a k : Int} {l : List SR} {f : Nat → Int} {rs : List RLt} {P0 P1 P2 P3 P4 P5 P6 P7 P8 P9 P10 P11 P12 : PS} {R : List PS} {Q : Option AV → List PS → Prop} (ha : -2147483648 ≤ a ∧ a < 2147483648) (hk : -2147483648 ≤ k ∧ k < 2147483648) (hsk : gO P12 0 11 = some kb) (hB : BoC kb l f P2) (hF : FOK f) (hY : SyK y w z t) (hS : StC 0 y z t P3 P6) (hC : CsC X y z l f P3 P6) (hI : InjP y P6) (hlw : gO P12 0 13 = some kl) (hL : LwC kl rs u P4) (hK : RsK rs) (hV : VC (cds rs)) (hl : (cds rs).length ≤ 400) (h : ∀ P3' P4' P7' P8' P12', StC 0 y z t P3' P6 → CsC X y z l f P3' P6 → gN P3' = gN P3 → frK kl P4 P4' → Fr [] cuL [] [] P7 P7' → frN8 P8 P8' → FrA [9] P12 P12' → Q (some (vI (iI (trustS y z a k l f rs)))) (P0 :: P1 :: P2 :: P3' :: P4' :: P5 :: P6 :: P7' :: P8' :: P9 :: P10 :: P11 :: P12' :: R)) : Tri 153 (d + 13) [vR 12 0 0, vI (iI a), vI (iI k)] (P0 :: P1 :: P2 :: P3 :: P4 :: P5 :: P6 :: P7 :: P8 :: P9 :: P10 :: P11 :: P12 :: R) Q := by
  refine enX11_trust ?_
  unfold fX11_trust_0
  refine C_trustOf rfl rfl ha hk hsk hB hF hY hS hC hI hlw hL hK hV hl (fun A3 A4 A7 A8 A12 s1 s2 s3 s4 s5 s6 s7 => ?_)
  dsimp only [hx13, rI]
  exact h A3 A4 A7 A8 A12 s1 s2 s3 s4 s5 s6 s7
theorem C_believed {d w kb kl u : Nat} {y : SY} {X : BXt} {z t k : Int} {l : List SR} {f : Nat → Int} {rs : List RLt} {P0 P1 P2 P3 P4 P5 P6 P7 P8 P9 P10 P11 P12 : PS} {R : List PS} {Q : Option AV → List PS → Prop} (hk : -2147483648 ≤ k ∧ k < 2147483648) (hsk : gO P12 0 11 = some kb) (hB : BoC kb l f P2) (hF : FOK f) (hY : SyK y w z t) (hS : StC 0 y z t P3 P6) (hC : CsC X y z l f P3 P6) (hI : InjP y P6) (hlw : gO P12 0 13 = some kl) (hL : LwC kl rs u P4) (hK : RsK rs) (hV : VC (cds rs)) (hl : (cds rs).length ≤ 400) (h : ∀ P3' P4' P7' P8' P12', StC 0 y z t P3' P6 → CsC X y z l f P3' P6 → gN P3' = gN P3 → frK kl P4 P4' → Fr [] cuL [] [] P7 P7' → frN8 P8 P8' → FrA [9] P12 P12' → Q (some (vI (iI (belS y z k l f rs y.1).1))) (P0 :: P1 :: P2 :: P3' :: P4' :: P5 :: P6 :: P7' :: P8' :: P9 :: P10 :: P11 :: P12' :: R)) : Tri 154 (d + 13) [vR 12 0 0, vI (iI k)] (P0 :: P1 :: P2 :: P3 :: P4 :: P5 :: P6 :: P7 :: P8 :: P9 :: P10 :: P11 :: P12 :: R) Q := by
  have y12 := hY.1
  have key : ∀ (m n : Nat) (A3 A4 A7 A8 A12 : PS), n + m = y.1 → StC 0 y z t A3 P6 → CsC X y z l f A3 P6 → gN A3 = gN P3 → frK kl P4 A4 → Fr [] cuL [] [] P7 A7 → frN8 P8 A8 → FrA [9] P12 A12 → cX11_believed_7 (0, 0, 0, 0) (d + 12) (iI k) (iI (belS y z k l f rs n).1) (iI (belS y z k l f rs n).2) (iI (n : Nat)) P0 P1 P2 A3 A4 P5 P6 A7 A8 P9 P10 P11 A12 R Q := by
    intro m
    induction m with
    | zero =>
      intro n A3 A4 A7 A8 A12 hn s1 s2 s3 s4 s5 s6 s7
      have : n = y.1 := by omega
      subst this
      refine gX11_believed_7 ?_
      unfold fX11_believed_7
      rw [show gI P6 0 4 = _ from s1.1, iI_le (by omega) (by omega) (by omega) (by omega)]
      exact ⟨fun _ => h A3 A4 A7 A8 A12 s1 s2 s3 s4 s5 s6 s7, fun g => absurd (by omega) g⟩
    | succ m ih =>
      intro n A3 A4 A7 A8 A12 hn s1 s2 s3 s4 s5 s6 s7
      have tb := trust_bd (y := y) (z := z) (a := (n : Nat)) (k := k) (l := l) (f := f) hK
      have bb := bel_bd (y := y) (z := z) (k := k) (l := l) (f := f) hK n
      refine gX11_believed_7 ?_
      unfold fX11_believed_7
      rw [show gI P6 0 4 = _ from s1.1, iI_le (by omega) (by omega) (by omega) (by omega), show iI (n : Nat) + 1 = iI ((n + 1 : Nat)) from iI_add _ 1]
      refine ⟨fun g => absurd g (by omega), fun _ => ?_⟩
      refine C_trustOf (a := (n : Nat)) rfl rfl (by omega) hk (by rw [s7.2.1]; exact hsk) hB hF hY s1 s2 hI (by rw [s7.2.1]; exact hlw) (hL.fk s4) hK hV hl (fun B3 B4 B7 B8 B12 r1 r2 r3 r4 r5 r6 r7 => ?_)
      dsimp only [hx13, rI]
      have e1 : belS y z k l f rs (n + 1) = if 0 ≤ trustS y z (n : Nat) k l f rs ∧ (belS y z k l f rs n).2 ≤ trustS y z (n : Nat) k l f rs then (((n : Nat) : Int), trustS y z (n : Nat) k l f rs) else belS y z k l f rs n := rfl
      have ih' := ih (n + 1) B3 B4 B7 B8 B12 (by omega) r1 r2 (r3.trans s3) (s4.tr r4) (s5.trs r5) (s6.trs r6) (s7.tr r7)
      rw [e1] at ih'
      rw [show (-1 : Int32) = iI (-1) from rfl, iI_eq (by omega) (by omega) (by omega) (by omega), iI_lt (by omega) (by omega) (by omega) (by omega)]
      refine ⟨fun g => ?_, fun g => ⟨fun g1 => ?_, fun g1 => ?_⟩⟩
      · rw [if_neg (by omega)] at ih'; exact ih'
      · rw [if_neg (by omega)] at ih'; exact ih'
      · rw [if_pos (by omega)] at ih'; exact ih'
  refine enX11_believed ?_
  unfold fX11_believed_0
  exact key y.1 0 P3 P4 P7 P8 P12 (by omega) hS hC rfl frK.rf Fr.rf Fr.rf FrA.rf
