/-! ===== FOLLOWED, FOLLOW: the class ===== -/
def FrA (as : List Nat) (P P' : PS) : Prop := Fr [] [] as [] P P' ∧ (∀ j a, gO P' j a = gO P j a) ∧ ∀ j a i, gR P' j a i = gR P j a i
theorem FrA.rf {as : List Nat} {P : PS} : FrA as P P := ⟨Fr.rf, fun _ _ => rfl, fun _ _ _ => rfl⟩
theorem FrA.sA {as : List Nat} {P P' : PS} {a i : Nat} {v : Int32} (h : FrA as P P') (ha : a ∈ as) : FrA as P (sA P' 0 a i v) := ⟨h.1.sA ha, h.2.1, h.2.2⟩
theorem C_canShift {d : Nat} {x : Int} {x1 : Int32} {R : List PS} {Q : Option AV → List PS → Prop} (e : x1 = iI x) (hx : -2147483648 ≤ x ∧ x < 2147483648) (h : Q (some (vI (oI (decide (-999 ≤ x ∧ x ≤ 999))))) R) : Tri 162 d [vI x1] R Q := by
  subst e
  refine enX11_canShift ?_
  unfold fX11_canShift_0
  have q1 : iI x < (-999 : Int32) ↔ x < -999 := by rw [show (-999 : Int32) = iI (-999) from rfl]; exact iI_lt (by omega) (by omega) (by omega) (by omega)
  have q2 : (999 : Int32) < iI x ↔ 999 < x := by rw [show (999 : Int32) = iI 999 from rfl]; exact iI_lt (by omega) (by omega) (by omega) (by omega)
  rw [q1, q2]
  refine ⟨fun c => ⟨Or.inl rfl, ?_⟩, fun c => ⟨fun c1 => ⟨Or.inl rfl, ?_⟩, fun c1 => ⟨Or.inr rfl, ?_⟩⟩⟩
  · rw [decide_eq_false (by omega)] at h; exact h
  · rw [decide_eq_false (by omega)] at h; exact h
  · rw [decide_eq_true (by omega)] at h; exact h
theorem C_followAll {d kb i j a b w : Nat} {y : SY} {z k x v : Int} {l : List SR} {f : Nat → Int} {x1 x2 x3 x4 : Int32} {P0 P1 P2 P3 P4 P5 P6 P7 P8 P9 P10 P11 P12 : PS} {R : List PS} {Q : Option AV → List PS → Prop} (e3 : x3 = iI x) (e4 : x4 = iI v) (hsk : gO P12 0 11 = some kb) (hB : BoC kb l f P2) (hF : FOK f) (hKa : LtK a w z (y.2.1 a)) (hKb : LtK b w z (y.2.1 b)) (hPa : PiC i (y.2.1 a) z P3) (hPb : PiC j (y.2.1 b) z P3) (hxa : ∀ e, e < 32 → bz x1 e = (decide (e < nD (y.2.1 a) z) && ptB y z k a e)) (hxb : ∀ e, e < 32 → bz x2 e = (decide (e < nD (y.2.1 b) z) && ptB y z k b e)) (hx : -999 ≤ x ∧ x ≤ 999) (hv : -999 ≤ v ∧ v ≤ 999) (h : ∀ P12', (∀ p, p < nP y z k a → gA P12' 0 10 p = iI (nr (fD y z k a b x v p) (fwT (fD y z k a b x v) (10 * f 4) (nP y z k b) p).1 (10 * f 4) (nP y z k b))) → FrA [10] P12 P12' → Q (some (vI (iI ((fwT (fD y z k a b x v) (10 * f 4) (nP y z k b) (nP y z k a)).2 : Nat)))) (P0 :: P1 :: P2 :: P3 :: P4 :: P5 :: P6 :: P7 :: P8 :: P9 :: P10 :: P11 :: P12' :: R)) : Tri 163 (d + 1) [vR 12 0 0, vR 3 i 0, vI x1, vR 3 j 0, vI x2, vI x3, vI x4] (P0 :: P1 :: P2 :: P3 :: P4 :: P5 :: P6 :: P7 :: P8 :: P9 :: P10 :: P11 :: P12 :: R) Q := by
  subst e3 e4
  have h12 := (nD_le (y.2.1 a) z).1
  have na12 := nP_le y z k a
  have nb12 := nP_le y z k b
  have f4 := hF.2.2.2.2.1
  have Dbd : ∀ p, p < nP y z k a → ∀ q, q < nP y z k b → 0 ≤ fD y z k a b x v p q ∧ fD y z k a b x v p q ≤ 3000 := fun p hp q hq => fD_bd hKa hKb (by omega) (by omega) hp hq
  refine enX11_followAll ?_
  unfold fX11_followAll_0
  refine J_bitCount ?_
  dsimp only [hx13, rI]
  rw [bcn_cut (by omega) hxa]
  have en : cnt (ptB y z k a) (nD (y.2.1 a) z) = nP y z k a := rfl
  rw [en]
  have key : ∀ (m p : Nat) (s : Int32) (A : PS), p + m = nP y z k a → (∀ e, e < 32 → bz s e = (fwT (fD y z k a b x v) (10 * f 4) (nP y z k b) p).1 e) → FrA [10] P12 A → (∀ q, q < p → gA A 0 10 q = iI (nr (fD y z k a b x v q) (fwT (fD y z k a b x v) (10 * f 4) (nP y z k b) q).1 (10 * f 4) (nP y z k b))) → cX11_followAll_15 (0, 0, 0, 0) d i x1 j x2 (iI x) (iI v) (iI (nP y z k a : Nat)) s (iI ((fwT (fD y z k a b x v) (10 * f 4) (nP y z k b) p).2 : Nat)) (iI (p : Nat)) P0 P1 P2 P3 P4 P5 P6 P7 P8 P9 P10 P11 A R Q := by
    intro m
    induction m with
    | zero =>
      intro p s A hp hs fA hA
      have : p = nP y z k a := by omega
      subst this
      refine gX11_followAll_15 ?_
      unfold fX11_followAll_15
      exact ⟨fun _ => h A hA fA, fun g => absurd (by rw [iI_le (by omega) (by omega) (by omega) (by omega)]; omega) g⟩
    | succ m ih =>
      intro p s A hp hs fA hA
      have hpa : p < nP y z k a := by omega
      have dl := ptD_lt hpa
      have px := hPa.2.1 _ dl
      have bp := pXY_bd (k := k) hKa hpa
      have nb := nr_bd (tk := (fwT (fD y z k a b x v) (10 * f 4) (nP y z k b) p).1) (M := 10 * f 4) (Dbd p hpa)
      have sa := fwT_s (fD y z k a b x v) (10 * f 4) (nP y z k b) p
      have le := fwT_le (fD y z k a b x v) (10 * f 4) (nP y z k b) p
      have dk := dt_ok hKa.2.2.2.1 hKa.2.2.1.1 dl
      refine gX11_followAll_15 ?_
      unfold fX11_followAll_15
      rw [iI_le (by omega) (by omega) (by omega) (by omega), show (12 : Int32) = iI 12 from rfl, iI_le (by omega) (by omega) (by omega) (by omega)]
      refine ⟨fun g => absurd g (by omega), fun _ => ⟨fun g => absurd g (by omega), fun _ => ?_⟩⟩
      refine C_nthBit (n := nD (y.2.1 a) z) (p := ptB y z k a) rfl (by omega) h12 hxa ?_
      dsimp only [hx13, rI]
      rw [if_pos (by rw [en]; omega), Int.toNat_natCast, show nth (ptB y z k a) p (nD (y.2.1 a) z) = ptD y z k a p from rfl]
      have hsk' : gO A 0 11 = some kb := by rw [fA.2.1]; exact hsk
      have w1 : vp_in (iI (ptD y z k a p : Nat)) 12 := vpk (by omega) (by omega)
      rw [hsk', show (0 : Int32) = iI 0 from rfl, iI_lt (by omega) (by omega) (by omega) (by omega), iI_lt (by omega) (by omega) (by omega) (by omega), iI_cl (a := (ptD y z k a p : Nat)) (by omega) (by omega), Int.toNat_natCast, show gA P3 i 0 _ = _ from px.1, show gA P3 i 1 _ = _ from px.2.1, iI_add, iI_add]
      refine ⟨fun g => absurd g (by omega), fun _ => ⟨fun _ => ⟨w1, w1, ?_⟩, fun g => absurd (by omega) g⟩⟩
      dsimp only [oM]
      refine C_nearestPoint (M := 10 * f 4) (D := fD y z k a b x v p) (tk := (fwT (fD y z k a b x v) (10 * f 4) (nP y z k b) p).1) (k := k) (w := w) (b := b) rfl rfl ?_ hKb hPb hxb hs (by omega) (by omega) (by omega) (fun q hq => rfl) (Dbd p hpa) ?_
      · rw [show gI P2 kb 10 = iI (f 4) from hB.2.1 4 (by omega), show (10 : Int32) = iI 10 from rfl, iI_mul]
        exact congrArg iI (by omega)
      dsimp only [hx13, rI]
      refine gX11_followAll_91 ?_
      unfold fX11_followAll_91
      rw [show (-1 : Int32) = iI (-1) from rfl, iI_eq (by omega) (by omega) (by omega) (by omega), iI_cl (a := (p : Nat)) (by omega) (by omega), Int.toNat_natCast, show iI (p : Nat) + 1 = iI ((p + 1 : Nat)) from iI_add (p : Nat) 1]
      have hA' : ∀ q, q < p + 1 → gA (sA A 0 10 p (iI (nr (fD y z k a b x v p) (fwT (fD y z k a b x v) (10 * f 4) (nP y z k b) p).1 (10 * f 4) (nP y z k b)))) 0 10 q = iI (nr (fD y z k a b x v q) (fwT (fD y z k a b x v) (10 * f 4) (nP y z k b) q).1 (10 * f 4) (nP y z k b)) := fun q hq => by
        rw [gA_sA, if_pos rfl, if_pos rfl]
        by_cases e : q = p
        · rw [if_pos e, e]
        · rw [if_neg e]; exact hA q (by omega)
      refine ⟨vpk (by omega) (by omega), fun g => ?_, fun g => ?_⟩
      · rw [if_pos (by omega)] at sa
        have := ih (p + 1) s _ (by omega) (fun e he => by rw [sa]; exact hs e he) (fA.sA (by simp)) hA'
        rw [sa] at this; exact this
      · rw [if_neg (by omega)] at sa
        have := ih (p + 1) (s ||| (1 <<< ((iI (nr (fD y z k a b x v p) (fwT (fD y z k a b x v) (10 * f 4) (nP y z k b) p).1 (10 * f 4) (nP y z k b))) &&& 31))) _ (by omega) (fun e he => by
          rw [sa, bz_or, hs e he, show iI (nr (fD y z k a b x v p) (fwT (fD y z k a b x v) (10 * f 4) (nP y z k b) p).1 (10 * f 4) (nP y z k b)) = iI ((nr (fD y z k a b x v p) (fwT (fD y z k a b x v) (10 * f 4) (nP y z k b) p).1 (10 * f 4) (nP y z k b)).toNat : Nat) from congrArg iI (by omega), bz_1 _ (by omega) e he, Bool.or_comm]) (fA.sA (by simp)) hA'
        rw [sa] at this
        rw [show iI ((fwT (fD y z k a b x v) (10 * f 4) (nP y z k b) p).2 : Nat) + 1 = iI (((fwT (fD y z k a b x v) (10 * f 4) (nP y z k b) p).2 + 1 : Nat)) from iI_add _ 1]
        exact this
  exact key (nP y z k a) 0 0 P12 (by omega) (fun e he => bz_0 e) FrA.rf (fun q hq => absurd hq (Nat.not_lt_zero q))
theorem C_followed {d w kb : Nat} {y : SY} {z t a b x v u k : Int} {l : List SR} {f : Nat → Int} {P0 P1 P2 P3 P4 P5 P6 P7 P8 P9 P10 P11 P12 : PS} {R : List PS} {Q : Option AV → List PS → Prop} (ha : -2147483648 ≤ a ∧ a < 2147483648) (hb : -2147483648 ≤ b ∧ b < 2147483648) (hx : -2147483648 ≤ x ∧ x < 2147483648) (hv : -2147483648 ≤ v ∧ v < 2147483648) (hu : -2147483648 ≤ u ∧ u < 2147483648) (hk : -2147483648 ≤ k ∧ k < 2147483648) (hsk : gO P12 0 11 = some kb) (hB : BoC kb l f P2) (hF : FOK f) (hY : SyK y w z t) (hS : StC 0 y z t P3 P6) (h : ∀ P12', FrA [10] P12 P12' → Q (some (vI (iI (followedS y z a b x v u k f)))) (P0 :: P1 :: P2 :: P3 :: P4 :: P5 :: P6 :: P7 :: P8 :: P9 :: P10 :: P11 :: P12' :: R)) : Tri 144 (d + 4) [vR 12 0 0, vI (iI a), vI (iI b), vI (iI x), vI (iI v), vI (iI u), vI (iI k)] (P0 :: P1 :: P2 :: P3 :: P4 :: P5 :: P6 :: P7 :: P8 :: P9 :: P10 :: P11 :: P12 :: R) Q := by
  have no : ∀ P12', ¬ (okF y a b x v k ∧ 0 ≤ u ∧ u ≤ 2) → FrA [10] P12 P12' → Q (some (vI (-1))) (P0 :: P1 :: P2 :: P3 :: P4 :: P5 :: P6 :: P7 :: P8 :: P9 :: P10 :: P11 :: P12' :: R) := fun P12' c fP => by
    have := h P12' fP
    unfold followedS at this
    rw [if_neg (fun g => c (dcd_t.mp g))] at this; exact this
  have v2 : iI u = (0 : Int32) ↔ u = 0 := by rw [show (0 : Int32) = iI 0 from rfl]; exact iI_eq (by omega) (by omega) (by omega) (by omega)
  have v3 : iI u = (1 : Int32) ↔ u = 1 := by rw [show (1 : Int32) = iI 1 from rfl]; exact iI_eq (by omega) (by omega) (by omega) (by omega)
  have v4 : iI u = (2 : Int32) ↔ u = 2 := by rw [show (2 : Int32) = iI 2 from rfl]; exact iI_eq (by omega) (by omega) (by omega) (by omega)
  refine enX11_followed ?_
  unfold fX11_followed_0
  rw [v2, v3, v4]
  refine C_known rfl rfl ha hk hY hS (fun i ct g2 g3 => ?_) (fun ct => ?_)
  · dsimp only [hx13, rR]
    refine ⟨rfl, ?_⟩
    have ap := cntS_lt ct
    refine C_known rfl rfl hb hk hY hS (fun j ct1 g4 g5 => ?_) (fun ct1 => ?_)
    · dsimp only [hx13, rR]
      refine ⟨rfl, ?_⟩
      have bp := cntS_lt ct1
      refine C_canShift rfl hx ?_
      dsimp only [hx13, rI]
      rw [oI_dec]
      refine ⟨fun c => no P12 (fun g => c g.1.2.2.1) FrA.rf, fun c => C_canShift rfl hv ?_⟩
      dsimp only [hx13, rI]
      rw [oI_dec]
      refine ⟨fun c1 => ?_, fun c1 => no P12 (fun g => c1 g.1.2.2.2) FrA.rf⟩
      have cx := Decidable.not_not.mp c
      have cv := Decidable.not_not.mp c1
      have ok : okF y a b x v k := ⟨ct, ct1, cx, cv⟩
      refine C_pointsOf hk hY hS ap.2 g3 (fun xa hxa => ?_)
      dsimp only [hx13, rI]
      refine C_pointsOf hk hY hS bp.2 g5 (fun xb hxb => ?_)
      dsimp only [hx13, rI]
      refine C_followAll (a := a.toNat) (b := b.toNat) rfl rfl hsk hB hF (hY.2.2 a.toNat ap.2).1 (hY.2.2 b.toNat bp.2).1 g3 g5 hxa hxb cx cv (fun A hA fA => ?_)
      dsimp only [hx13, rI]
      have hh := h A fA
      unfold followedS at hh
      have h12 := (nD_le (y.2.1 a.toNat) z).1
      have h12' := (nD_le (y.2.1 b.toNat) z).1
      refine ⟨fun c2 => ?_, fun c2 => ⟨fun c3 => ?_, fun c3 => ⟨fun c4 => ?_, fun c4 => no A (fun g => by have := g.2; omega) fA⟩⟩⟩
      · rw [if_pos (dcd_t.mpr ⟨ok, by omega, by omega⟩), if_pos c2] at hh; exact hh
      · refine J_bitCount ?_
        dsimp only [hx13, rI]
        rw [if_pos (dcd_t.mpr ⟨ok, by omega, by omega⟩), if_neg c2, if_pos c3] at hh
        rw [bcn_cut (by omega) hxa, iI_sub]; exact hh
      · refine J_bitCount ?_
        dsimp only [hx13, rI]
        rw [if_pos (dcd_t.mpr ⟨ok, by omega, by omega⟩), if_neg c2, if_neg c3] at hh
        rw [bcn_cut (by omega) hxb, iI_sub]; exact hh
    · dsimp only [hx13, rR]
      exact no P12 (fun g => by have := g.1.2.1; rw [ct1] at this; exact absurd this (by decide)) FrA.rf
  · dsimp only [hx13, rR]
    have nn := no P12 (fun g => by have := g.1.1; rw [ct] at this; exact absurd this (by decide)) FrA.rf
    refine C_known rfl rfl hb hk hY hS (fun j ct1 g4 g5 => ?_) (fun ct1 => ?_)
    · dsimp only [hx13, rR]
      exact ⟨rfl, nn⟩
    · dsimp only [hx13, rR]
      exact nn
theorem C_follow {d w kb : Nat} {y : SY} {z t a b x v u k : Int} {l : List SR} {f : Nat → Int} {P0 P1 P2 P3 P4 P5 P6 P7 P8 P9 P10 P11 P12 : PS} {R : List PS} {Q : Option AV → List PS → Prop} (ha : -2147483648 ≤ a ∧ a < 2147483648) (hb : -2147483648 ≤ b ∧ b < 2147483648) (hx : -2147483648 ≤ x ∧ x < 2147483648) (hv : -2147483648 ≤ v ∧ v < 2147483648) (hu : -2147483648 ≤ u ∧ u < 2147483648) (hk : -2147483648 ≤ k ∧ k < 2147483648) (hsk : gO P12 0 11 = some kb) (hB : BoC kb l f P2) (hF : FOK f) (hY : SyK y w z t) (hS : StC 0 y z t P3 P6) (h : ∀ P12', FrA [10] P12 P12' → Q (some (vI (iI (followS y z a b x v u k f)))) (P0 :: P1 :: P2 :: P3 :: P4 :: P5 :: P6 :: P7 :: P8 :: P9 :: P10 :: P11 :: P12' :: R)) : Tri 145 (d + 4) [vR 12 0 0, vI (iI a), vI (iI b), vI (iI x), vI (iI v), vI (iI u), vI (iI k)] (P0 :: P1 :: P2 :: P3 :: P4 :: P5 :: P6 :: P7 :: P8 :: P9 :: P10 :: P11 :: P12 :: R) Q := by
  have no : ∀ P12', ¬ (okF y a b x v k ∧ 0 ≤ u ∧ u < (nP y z k a.toNat : Nat)) → FrA [10] P12 P12' → Q (some (vI (-1))) (P0 :: P1 :: P2 :: P3 :: P4 :: P5 :: P6 :: P7 :: P8 :: P9 :: P10 :: P11 :: P12' :: R) := fun P12' c fP => by
    have := h P12' fP
    unfold followS at this
    rw [if_neg (fun g => c (dcd_t.mp g))] at this; exact this
  refine enX11_follow ?_
  unfold fX11_follow_0
  refine C_known rfl rfl ha hk hY hS (fun i ct g2 g3 => ?_) (fun ct => ?_)
  · dsimp only [hx13, rR]
    refine ⟨rfl, ?_⟩
    have ap := cntS_lt ct
    refine C_known rfl rfl hb hk hY hS (fun j ct1 g4 g5 => ?_) (fun ct1 => ?_)
    · dsimp only [hx13, rR]
      refine ⟨rfl, ?_⟩
      have bp := cntS_lt ct1
      refine C_canShift rfl hx ?_
      dsimp only [hx13, rI]
      rw [oI_dec]
      refine ⟨fun c => no P12 (fun g => c g.1.2.2.1) FrA.rf, fun c => C_canShift rfl hv ?_⟩
      dsimp only [hx13, rI]
      rw [oI_dec]
      refine ⟨fun c1 => ?_, fun c1 => no P12 (fun g => c1 g.1.2.2.2) FrA.rf⟩
      have cx := Decidable.not_not.mp c
      have cv := Decidable.not_not.mp c1
      have ok : okF y a b x v k := ⟨ct, ct1, cx, cv⟩
      have h12 := (nD_le (y.2.1 a.toNat) z).1
      have na12 := nP_le y z k a.toNat
      refine C_pointsOf hk hY hS ap.2 g3 (fun xa hxa => ?_)
      dsimp only [hx13, rI]
      have v0 : iI u < (0 : Int32) ↔ u < 0 := by rw [show (0 : Int32) = iI 0 from rfl]; exact iI_lt (by omega) (by omega) (by omega) (by omega)
      have v12 : iI u < (12 : Int32) ↔ u < 12 := by rw [show (12 : Int32) = iI 12 from rfl]; exact iI_lt (by omega) (by omega) (by omega) (by omega)
      have en : cnt (ptB y z k a.toNat) (nD (y.2.1 a.toNat) z) = nP y z k a.toNat := rfl
      rw [v0]
      refine ⟨fun c2 => no P12 (fun g => by have := g.2; omega) FrA.rf, fun c2 => J_bitCount ?_⟩
      dsimp only [hx13, rI]
      rw [bcn_cut (by omega) hxa, en, iI_le (by omega) (by omega) (by omega) (by omega), v12]
      refine ⟨fun c3 => no P12 (fun g => by have := g.2; omega) FrA.rf, fun c3 => ⟨fun c4 => ?_, fun c4 => no P12 (fun g => by have := g.2; omega) FrA.rf⟩⟩
      refine C_pointsOf hk hY hS bp.2 g5 (fun xb hxb => ?_)
      dsimp only [hx13, rI]
      refine C_followAll (a := a.toNat) (b := b.toNat) rfl rfl hsk hB hF (hY.2.2 a.toNat ap.2).1 (hY.2.2 b.toNat bp.2).1 g3 g5 hxa hxb cx cv (fun A hA fA => ?_)
      dsimp only [hx13, rI]
      have hh := h A fA
      unfold followS at hh
      rw [if_pos (dcd_t.mpr ⟨ok, by omega, by omega⟩)] at hh
      rw [iI_in (by omega) (by omega), iI_cl (a := u) (by omega) (by omega), show gA A 0 10 _ = _ from hA u.toNat (by omega)]
      exact ⟨by omega, hh⟩
    · dsimp only [hx13, rR]
      exact no P12 (fun g => by have := g.1.2.1; rw [ct1] at this; exact absurd this (by decide)) FrA.rf
  · dsimp only [hx13, rR]
    have nn := no P12 (fun g => by have := g.1.1; rw [ct] at this; exact absurd this (by decide)) FrA.rf
    refine C_known rfl rfl hb hk hY hS (fun j ct1 g4 g5 => ?_) (fun ct1 => ?_)
    · dsimp only [hx13, rR]
      exact ⟨rfl, nn⟩
    · dsimp only [hx13, rR]
      exact nn
