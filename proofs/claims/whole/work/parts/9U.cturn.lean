/-! ===== TURN, LOOK, STRETCH: the class ===== -/
theorem C_skyX {d j s : Nat} {l : List SR} {f : Nat → Int} {x : Int32} {P0 P1 P2 : PS} {R : List PS} {Q : Option AV → List PS → Prop} (hx : x = iI (s : Nat)) (hs : s < l.length) (hS : SsC j l P2) (hT : TdC j f P2) (h : Q (some (vI (iI (10 * ((nthS l s).2.1 + f 8))))) (P0 :: P1 :: P2 :: R)) : Tri 5 (d + 1) [vR 2 j 0, vI x] (P0 :: P1 :: P2 :: R) Q := by
  subst hx
  have hl := hS.2.1
  refine enX0_skyX ?_
  unfold fX0_skyX_0
  refine C_has rfl (by omega) hS ?_
  dsimp only [hx3, rI]
  rw [oI_dec, iI_cl (a := (s : Nat)) (by omega) (by omega), Int.toNat_natCast, show gA P2 j 1 s = _ from (hS.2.2.2 s hs).2.1, show gI P2 j 14 = _ from hT 8 (by omega), show (10 : Int32) = iI 10 from rfl, iI_add, iI_mul]
  exact ⟨fun c => absurd ⟨by omega, by omega⟩ c, fun _ => ⟨vpk (by omega) (by omega), h⟩⟩
theorem C_skyY {d j s : Nat} {l : List SR} {f : Nat → Int} {x : Int32} {P0 P1 P2 : PS} {R : List PS} {Q : Option AV → List PS → Prop} (hx : x = iI (s : Nat)) (hs : s < l.length) (hS : SsC j l P2) (hT : TdC j f P2) (h : Q (some (vI (iI (10 * ((nthS l s).2.2.1 + f 9))))) (P0 :: P1 :: P2 :: R)) : Tri 6 (d + 1) [vR 2 j 0, vI x] (P0 :: P1 :: P2 :: R) Q := by
  subst hx
  have hl := hS.2.1
  refine enX0_skyY ?_
  unfold fX0_skyY_0
  refine C_has rfl (by omega) hS ?_
  dsimp only [hx3, rI]
  rw [oI_dec, iI_cl (a := (s : Nat)) (by omega) (by omega), Int.toNat_natCast, show gA P2 j 2 s = _ from (hS.2.2.2 s hs).2.2.1, show gI P2 j 15 = _ from hT 9 (by omega), show (10 : Int32) = iI 10 from rfl, iI_add, iI_mul]
  exact ⟨fun c => absurd ⟨by omega, by omega⟩ c, fun _ => ⟨vpk (by omega) (by omega), h⟩⟩
abbrev cuL : List Nat := [0, 1, 2, 3, 4, 5, 6, 7]
def U1 (g : Nat → Nat) (X Y V W : Nat → Int) (q : Nat) (P : PS) : Prop := gL P 0 4 = iL (sZ g X q) ∧ gL P 0 5 = iL (sZ g Y q) ∧ gL P 0 6 = iL (sZ g V q) ∧ gL P 0 7 = iL (sZ g W q) ∧ gL P 0 3 = iL (sZ g (fun _ => 1) q)
def U2 (g : Nat → Nat) (X Y V W : Nat → Int) (q : Nat) (P : PS) : Prop := gL P 0 0 = iL (tA g X Y q) ∧ gL P 0 1 = iL (tC g X Y V W q) ∧ gL P 0 2 = iL (tS g X Y V W q)
theorem C_find {d j kb p w i : Nat} {y : SY} {z k : Int} {l : List SR} {f : Nat → Int} {x : Int32} {P0 P1 P2 P3 P4 P5 P6 P7 : PS} {R : List PS} {Q : Option AV → List PS → Prop} (ex : x = iI (i : Nat)) (hB : BoC kb l f P2) (hF : FOK f) (hK : LtK p w z (y.2.1 p)) (hP : PiC j (y.2.1 p) z P3) (hx : ∀ e, e < 32 → bz (gI P3 j 10) e = (decide (e < nD (y.2.1 p) z) && ptB y z k p e)) (nc : NcC j (qX y z k f p) (qY y z k f p) l (f 4) (aP y z k p) P3) (hi : i < (nmP y z k l f p).1.length) (h : ∀ P7', U1 (nmAt y z k l f p i) (qX y z k f p) (qY y z k f p) (oV l f (nmAt y z k l f p i)) (oW l f (nmAt y z k l f p i)) 6 P7' → U2 (nmAt y z k l f p i) (qX y z k f p) (qY y z k f p) (oV l f (nmAt y z k l f p i)) (oW l f (nmAt y z k l f p i)) 6 P7' → Fr [] cuL [] [] P7 P7' → Q none (P0 :: P1 :: P2 :: P3 :: P4 :: P5 :: P6 :: P7' :: R)) : Tri 116 (d + 2) [vR 7 0 0, vR 3 j 0, vI x, vR 2 kb 0] (P0 :: P1 :: P2 :: P3 :: P4 :: P5 :: P6 :: P7 :: R) Q := by
  subst ex
  have hl := hB.1.2.1
  have hA : aP y z k p ≤ 6 ∧ aP y z k p ≤ nP y z k p := m6_le (nP y z k p)
  have h12 := (nD_le (y.2.1 p) z).1
  have f1 := hF.2.1
  have f8 := hF.2.2.2.2.2.2.2.2.1
  have f9 := hF.2.2.2.2.2.2.2.2.2.1
  have lle : (nmP y z k l f p).1.length ≤ 200 := (nmF_le (qX y z k f p) (qY y z k f p) l (f 4) (aP y z k p) (aP y z k p)).1
  have vk := vokS (X := qX y z k f p) (Y := qY y z k f p) (l := l) (o := f 4) (A := aP y z k p)
  have hqA : ∀ q, nmAt y z k l f p i q ≠ 32 → q < nP y z k p := fun q c => by
    have : q < aP y z k p := Classical.byContradiction (fun g => c (by unfold nmAt; rw [if_neg g]))
    omega
  have glt : ∀ q, nmAt y z k l f p i q ≠ 32 → nmAt y z k l f p i q < l.length := fun q c => by
    rcases nmAt_lt (y := y) (z := z) (k := k) (l := l) (f := f) (p := p) (i := i) (q := q) hi with e | e
    · exact absurd e c
    · exact e
  have hi' : i < (nmS (qX y z k f p) (qY y z k f p) l (f 4) (aP y z k p)).1.length := hi
  refine enX10_find ?_
  unfold fX10_find_0
  refine enX10_clear ?_
  unfold fX10_clear_0
  dsimp only [hx8, rV]
  have eg : ∀ q, (if q < aP y z k p then ((nmS (qX y z k f p) (qY y z k f p) l (f 4) (aP y z k p)).1.getD i (fun _ => 32)) q else 32) = nmAt y z k l f p i q := fun q => rfl
  generalize hg : nmAt y z k l f p i = g at *
  have nth6 : ∀ q, g q ≠ 32 → (if 0 ≤ ((q : Nat) : Int) ∧ ((q : Nat) : Int) < (cnt (ptB y z k p) (nD (y.2.1 p) z) : Nat) then ((nth (ptB y z k p) ((q : Nat) : Int).toNat (nD (y.2.1 p) z) : Nat) : Int) else -1) = ((ptD y z k p q : Nat) : Int) := fun q c => by
    have := hqA q c
    have e : cnt (ptB y z k p) (nD (y.2.1 p) z) = nP y z k p := rfl
    rw [if_pos (by rw [e]; omega), Int.toNat_natCast]; rfl
  have l2 : ∀ (m q : Nat) (A : PS), q + m = 6 → Fr [] cuL [] [] P7 A → U1 g (qX y z k f p) (qY y z k f p) (oV l f g) (oW l f g) 6 A → U2 g (qX y z k f p) (qY y z k f p) (oV l f g) (oW l f g) q A → cX10_find_151 (0, 0, 0, 0) (d + 1) j (iI (i : Nat)) kb (iI (q : Nat)) P0 P1 P2 P3 P4 P5 P6 A R Q := by
    intro m
    induction m with
    | zero =>
      intro q A hq fA t1 t2
      have : q = 6 := by omega
      subst this
      refine gX10_find_151 ?_
      unfold fX10_find_151
      exact ⟨fun _ => h A t1 t2 fA, fun c => absurd (by decide) c⟩
    | succ m ih =>
      intro q A hq fA t1 t2
      refine gX10_find_151 ?_
      unfold fX10_find_151
      rw [show (6 : Int32) = iI 6 from rfl, iI_le (by omega) (by omega) (by omega) (by omega)]
      refine ⟨fun c => absurd c (by omega), fun _ => C_starOf rfl rfl (by omega) (by omega) hl vk nc.1 ?_⟩
      dsimp only [hx8, rI]
      rw [Int.toNat_natCast, Int.toNat_natCast, show (-1 : Int32) = iI (-1) from rfl, eg]
      by_cases c : g q = 32
      · rw [if_neg (fun g1 => g1.2.2 c)]
        refine ⟨fun g1 => absurd rfl g1, fun _ => ?_⟩
        refine gX10_find_186 ?_
        unfold fX10_find_186
        refine ⟨fun _ => ?_, fun g1 => absurd (by decide) g1⟩
        rw [show iI (q : Nat) + 1 = iI ((q + 1 : Nat)) from iI_add (q : Nat) 1]
        exact ih (q + 1) A (by omega) fA t1 ⟨by unfold tA; rw [sZ_n c]; exact t2.1, by unfold tC; rw [sZ_n c]; exact t2.2.1, by unfold tS; rw [sZ_n c]; exact t2.2.2⟩
      · have gq := glt q c
        have qn := hqA q c
        rw [if_pos ⟨by omega, by omega, c⟩, iI_eq (by omega) (by omega) (by omega) (by omega)]
        refine ⟨fun _ => ?_, fun g1 => absurd g1 (by omega)⟩
        refine C_nthBit (n := nD (y.2.1 p) z) (p := ptB y z k p) rfl (by omega) h12 hx ?_
        dsimp only [hx8, rI]
        rw [nth6 q c]
        have dl := ptD_lt qn
        have px := hP.2.1 _ dl
        have bq := qX_bd (f := f) hK hF qn
        have sk := hB.1.2.2.1 _ (nthS_mem gq)
        unfold StOK at sk
        refine gX10_find_186 ?_
        unfold fX10_find_186
        have w1 : vp_in (iI (ptD y z k p q : Nat)) 12 := vpk (by omega) (by omega)
        rw [show (0 : Int32) = iI 0 from rfl, iI_lt (by omega) (by omega) (by omega) (by omega), show (12 : Int32) = iI 12 from rfl, iI_le (by omega) (by omega) (by omega) (by omega), iI_cl (a := (ptD y z k p q : Nat)) (by omega) (by omega), Int.toNat_natCast, show gA P3 j 0 _ = _ from px.1, show gA P3 j 1 _ = _ from px.2.1, show gI P2 kb 7 = iI (f 1) from hB.2.1 1 (by omega), iI_mul, iI_mul, show iI (q : Nat) + 1 = iI ((q + 1 : Nat)) from iI_add (q : Nat) 1]
        refine ⟨fun g1 => absurd g1 (by omega), fun _ => ⟨fun g1 => absurd g1 (by omega), fun _ => ⟨w1, w1, C_skyX rfl gq hB.1 hB.2.1 ?_⟩⟩⟩
        dsimp only [hx8, rI]
        refine C_skyY rfl gq hB.1 hB.2.1 ?_
        dsimp only [hx8, rI]
        refine enX10_addPair ?_
        unfold fX10_addPair_0
        dsimp only [hx8, rV]
        have eX : (iI ((dt (y.2.1 p) z (ptD y z k p q)).1 * f 1)).toInt64 = iL (qX y z k f p q) := by
          show (iI (qX y z k f p q)).toInt64 = _
          exact iI_l (by omega) (by omega)
        have eY : (iI ((dt (y.2.1 p) z (ptD y z k p q)).2.1 * f 1)).toInt64 = iL (qY y z k f p q) := by
          show (iI (qY y z k f p q)).toInt64 = _
          exact iI_l (by omega) (by omega)
        have eV : (iI (10 * ((nthS l (g q)).2.1 + f 8))).toInt64 = iL (oV l f g q) := iI_l (by omega) (by omega)
        have eW : (iI (10 * ((nthS l (g q)).2.2.1 + f 9))).toInt64 = iL (oW l f g q) := iI_l (by omega) (by omega)
        rw [eX, eY, eV, eW, show gL A 0 3 = _ from t1.2.2.2.2, show gL A 0 4 = _ from t1.1, show gL A 0 5 = _ from t1.2.1, show gL A 0 6 = _ from t1.2.2.1, show gL A 0 7 = _ from t1.2.2.2.1, show gL A 0 0 = _ from t2.1, show gL A 0 1 = _ from t2.2.1, show gL A 0 2 = _ from t2.2.2]
        simp only [iL_mul, iL_sub, iL_add]
        refine ih (q + 1) _ (by omega) (((fA.sL (by simp)).sL (by simp)).sL (by simp)) t1 ⟨?_, ?_, ?_⟩
        · unfold tA; rw [sZ_s c]; rfl
        · unfold tC; rw [sZ_s c]; rfl
        · unfold tS; rw [sZ_s c]; rfl
  have l1 : ∀ (m q : Nat) (A : PS), q + m = 6 → Fr [] cuL [] [] P7 A → U1 g (qX y z k f p) (qY y z k f p) (oV l f g) (oW l f g) q A → U2 g (qX y z k f p) (qY y z k f p) (oV l f g) (oW l f g) 0 A → cX10_find_7 (0, 0, 0, 0) (d + 1) j (iI (i : Nat)) kb (iI (q : Nat)) P0 P1 P2 P3 P4 P5 P6 A R Q := by
    intro m
    induction m with
    | zero =>
      intro q A hq fA t1 t2
      have : q = 6 := by omega
      subst this
      refine gX10_find_7 ?_
      unfold fX10_find_7
      exact ⟨fun _ => l2 6 0 A (by omega) fA t1 t2, fun c => absurd (by decide) c⟩
    | succ m ih =>
      intro q A hq fA t1 t2
      refine gX10_find_7 ?_
      unfold fX10_find_7
      rw [show (6 : Int32) = iI 6 from rfl, iI_le (by omega) (by omega) (by omega) (by omega)]
      refine ⟨fun c => absurd c (by omega), fun _ => C_starOf rfl rfl (by omega) (by omega) hl vk nc.1 ?_⟩
      dsimp only [hx8, rI]
      rw [Int.toNat_natCast, Int.toNat_natCast, show (-1 : Int32) = iI (-1) from rfl, eg]
      by_cases c : g q = 32
      · rw [if_neg (fun g1 => g1.2.2 c)]
        refine ⟨fun g1 => absurd rfl g1, fun _ => ?_⟩
        refine gX10_find_42 ?_
        unfold fX10_find_42
        refine ⟨fun _ => ?_, fun g1 => absurd (by decide) g1⟩
        rw [show iI (q : Nat) + 1 = iI ((q + 1 : Nat)) from iI_add (q : Nat) 1]
        exact ih (q + 1) A (by omega) fA ⟨by rw [sZ_n c]; exact t1.1, by rw [sZ_n c]; exact t1.2.1, by rw [sZ_n c]; exact t1.2.2.1, by rw [sZ_n c]; exact t1.2.2.2.1, by rw [sZ_n c]; exact t1.2.2.2.2⟩ t2
      · have gq := glt q c
        have qn := hqA q c
        rw [if_pos ⟨by omega, by omega, c⟩, iI_eq (by omega) (by omega) (by omega) (by omega)]
        refine ⟨fun _ => ?_, fun g1 => absurd g1 (by omega)⟩
        refine C_nthBit (n := nD (y.2.1 p) z) (p := ptB y z k p) rfl (by omega) h12 hx ?_
        dsimp only [hx8, rI]
        rw [nth6 q c]
        have dl := ptD_lt qn
        have px := hP.2.1 _ dl
        have bq := qX_bd (f := f) hK hF qn
        have sk := hB.1.2.2.1 _ (nthS_mem gq)
        unfold StOK at sk
        have eX : (iI ((dt (y.2.1 p) z (ptD y z k p q)).1 * f 1)).toInt64 = iL (qX y z k f p q) := by
          show (iI (qX y z k f p q)).toInt64 = _
          exact iI_l (by omega) (by omega)
        have eY : (iI ((dt (y.2.1 p) z (ptD y z k p q)).2.1 * f 1)).toInt64 = iL (qY y z k f p q) := by
          show (iI (qY y z k f p q)).toInt64 = _
          exact iI_l (by omega) (by omega)
        have eV : (iI (10 * ((nthS l (g q)).2.1 + f 8))).toInt64 = iL (oV l f g q) := iI_l (by omega) (by omega)
        have eW : (iI (10 * ((nthS l (g q)).2.2.1 + f 9))).toInt64 = iL (oW l f g q) := iI_l (by omega) (by omega)
        refine gX10_find_42 ?_
        unfold fX10_find_42
        have w1 : vp_in (iI (ptD y z k p q : Nat)) 12 := vpk (by omega) (by omega)
        rw [show (0 : Int32) = iI 0 from rfl, iI_lt (by omega) (by omega) (by omega) (by omega), show (12 : Int32) = iI 12 from rfl, iI_le (by omega) (by omega) (by omega) (by omega), iI_cl (a := (ptD y z k p q : Nat)) (by omega) (by omega), Int.toNat_natCast, show gA P3 j 0 _ = _ from px.1, show gA P3 j 1 _ = _ from px.2.1, show gI P2 kb 7 = iI (f 1) from hB.2.1 1 (by omega), iI_mul, iI_mul, eX, eY, show iI (q : Nat) + 1 = iI ((q + 1 : Nat)) from iI_add (q : Nat) 1]
        refine ⟨fun g1 => absurd g1 (by omega), fun _ => ⟨fun g1 => absurd g1 (by omega), fun _ => ⟨w1, w1, C_skyX rfl gq hB.1 hB.2.1 ?_⟩⟩⟩
        dsimp only [hx8, rI]
        refine C_skyY rfl gq hB.1 hB.2.1 ?_
        dsimp only [hx8, rI]
        rw [eV, eW]
        refine ih (q + 1) _ (by omega) (((((fA.sL (by simp)).sL (by simp)).sL (by simp)).sL (by simp)).sL (by simp)) ⟨?_, ?_, ?_, ?_, ?_⟩ t2
        · show gL A 0 4 + iL (qX y z k f p q) = _
          rw [show gL A 0 4 = _ from t1.1, iL_add, sZ_s c]
        · show gL A 0 5 + iL (qY y z k f p q) = _
          rw [show gL A 0 5 = _ from t1.2.1, iL_add, sZ_s c]
        · show gL A 0 6 + iL (oV l f g q) = _
          rw [show gL A 0 6 = _ from t1.2.2.1, iL_add, sZ_s c]
        · show gL A 0 7 + iL (oW l f g q) = _
          rw [show gL A 0 7 = _ from t1.2.2.2.1, iL_add, sZ_s c]
        · show gL A 0 3 + (1 : Int64) = _
          rw [show gL A 0 3 = _ from t1.2.2.2.2, show (1 : Int64) = iL 1 from rfl, iL_add, sZ_s c]
  exact l1 6 0 _ (by omega) ((((((((Fr.rf.sL (by simp)).sL (by simp)).sL (by simp)).sL (by simp)).sL (by simp)).sL (by simp)).sL (by simp)).sL (by simp)) ⟨rfl, rfl, rfl, rfl, rfl⟩ ⟨rfl, rfl, rfl⟩
