/-! ===== the class: pictures that count, SPECKS, POINTS ===== -/
/-- a picture in the class -/
def PiC (j : Nat) (L : Nat → Int) (z : Int) (P : PS) : Prop := gI P j 5 = iI (nD L z : Nat) ∧ (∀ i, i < nD L z → gA P j 0 i = iI (dt L z i).1 ∧ gA P j 1 i = iI (dt L z i).2.1 ∧ gA P j 2 i = iI (dt L z i).2.2.1 ∧ gA P j 3 i = iI (dt L z i).2.2.2.1) ∧ (∀ i, i < 32 → bz (gI P j 6) i = (decide (i < nD L z) && (dt L z i).2.2.2.2)) ∧ (∀ r c, r < 16 → c < 16 → bz (gA P j 4 r) c = hrB L z (16 * r + c) (nD L z)) ∧ gI P j 7 = iI (smB (fun _ => true) (fun i => (dt L z i).2.2.1) (nD L z))
/-- what holds of a story at all -/
def SyK (y : SY) (w : Nat) (z t : Int) : Prop := y.1 ≤ 12 ∧ (0 ≤ t ∧ t ≤ 100000) ∧ ∀ q, q < y.1 → LtK q w z (y.2.1 q) ∧ (0 ≤ y.2.2.1 q ∧ y.2.2.1 q ≤ 100000) ∧ -1 ≤ y.2.2.2.1 q ∧ y.2.2.2.1 q ≤ 100000
/-- a story in the class -/
def StC (j : Nat) (y : SY) (z t : Int) (P3 P6 : PS) : Prop := gI P6 j 4 = iI (y.1 : Nat) ∧ gI P6 j 5 = iI t ∧ gI P6 j 6 = iI (frN y.2.2.2.2 : Nat) ∧ FpC j y.2.2.2.2 P6 ∧ ∀ q, q < y.1 → gA P6 j 1 q = iI (y.2.2.1 q) ∧ gA P6 j 2 q = iI (y.2.2.2.1 q) ∧ ∃ i, gR P6 j 0 q = some i ∧ PiC i (y.2.1 q) z P3
theorem C_known {d j w : Nat} {y : SY} {z t a k : Int} {x v : Int32} {P0 P1 P2 P3 P4 P5 P6 : PS} {R : List PS} {Q : Option AV → List PS → Prop} (hx : x = iI a) (hv : v = iI k) (ha : -2147483648 ≤ a ∧ a < 2147483648) (hk : -2147483648 ≤ k ∧ k < 2147483648) (hY : SyK y w z t) (hS : StC j y z t P3 P6) (hy : ∀ i, cntS y a k = true → gR P6 j 0 a.toNat = some i → PiC i (y.2.1 a.toNat) z P3 → Q (some (vR 3 i 0)) (P0 :: P1 :: P2 :: P3 :: P4 :: P5 :: P6 :: R)) (hn : cntS y a k = false → Q (some vN) (P0 :: P1 :: P2 :: P3 :: P4 :: P5 :: P6 :: R)) : Tri 79 d [vR 6 j 0, vI x, vI v] (P0 :: P1 :: P2 :: P3 :: P4 :: P5 :: P6 :: R) Q := by
  subst hx hv
  have hc := hY.1
  refine enX7_known ?_
  unfold fX7_known_0
  have no : ¬ (0 ≤ a ∧ a.toNat < y.1 ∧ y.2.2.1 a.toNat ≤ k ∧ (y.2.2.2.1 a.toNat < 0 ∨ k < y.2.2.2.1 a.toNat)) → Q (some vN) (P0 :: P1 :: P2 :: P3 :: P4 :: P5 :: P6 :: R) := fun q => hn (by
    unfold cntS ctB
    by_cases c : 0 ≤ a
    · rw [decide_eq_true c, Bool.true_and]; exact decide_eq_false (fun g => q ⟨c, g⟩)
    · rw [decide_eq_false c, Bool.false_and])
  rw [hS.1, show (0 : Int32) = iI 0 from rfl, show (12 : Int32) = iI 12 from rfl, iI_lt (by omega) (by omega) (by omega) (by omega), iI_le (by omega) (by omega) (by omega) (by omega), iI_le (by omega) (by omega) (by omega) (by omega)]
  refine ⟨fun c => no (by omega), fun c => ⟨fun c1 => no (by omega), fun c1 => ⟨fun c2 => absurd c2 (by omega), fun _ => ?_⟩⟩⟩
  have g := hY.2.2 a.toNat (by omega)
  obtain ⟨e1, e2, i, e3, e4⟩ := hS.2.2.2.2 a.toNat (by omega)
  have va : vp_in (iI a) 12 := by rw [iI_in (by omega) (by omega)]; omega
  rw [iI_cl (by omega) (by omega), e1, e2, e3, show (-1 : Int32) = iI (-1) from rfl, iI_le (by omega) (by omega) (by omega) (by omega), iI_eq (by omega) (by omega) (by omega) (by omega), iI_lt (by omega) (by omega) (by omega) (by omega)]
  simp only [oM]
  have yes : (y.2.2.1 a.toNat ≤ k ∧ (y.2.2.2.1 a.toNat < 0 ∨ k < y.2.2.2.1 a.toNat)) → Q (some (vR 3 i 0)) (P0 :: P1 :: P2 :: P3 :: P4 :: P5 :: P6 :: R) := fun q => hy i (by
    unfold cntS ctB; rw [decide_eq_true (show 0 ≤ a by omega), Bool.true_and]; exact decide_eq_true ⟨by omega, q⟩) e3 e4
  exact ⟨va, fun c3 => ⟨va, fun c4 => ⟨fun _ => ⟨va, yes (by omega)⟩, fun q => absurd trivial q⟩, fun c4 => ⟨va, fun c5 => ⟨fun _ => ⟨va, yes (by omega)⟩, fun q => absurd trivial q⟩, fun c5 => ⟨fun q => absurd q (by decide), fun _ => no (by omega)⟩⟩⟩, fun c3 => no (by omega)⟩
theorem C_hasMiddleIn {d j c r : Nat} {L : Nat → Int} {z : Int} {x y : Int32} {P0 P1 P2 P3 : PS} {R : List PS} {Q : Option AV → List PS → Prop} (hx : x = iI (c : Nat)) (hy : y = iI (r : Nat)) (hc : c < 16) (hr : r < 16) (hP : PiC j L z P3) (h : Q (some (vI (oI (hrB L z (16 * r + c) (nD L z))))) (P0 :: P1 :: P2 :: P3 :: R)) : Tri 41 d [vR 3 j 0, vI x, vI y] (P0 :: P1 :: P2 :: P3 :: R) Q := by
  subst hx hy
  refine enX3_hasMiddleIn ?_
  unfold fX3_hasMiddleIn_0
  rw [show (0 : Int32) = iI 0 from rfl, show (16 : Int32) = iI 16 from rfl, iI_lt (by omega) (by omega) (by omega) (by omega), iI_le (by omega) (by omega) (by omega) (by omega), iI_cl (a := (r : Nat)) (by omega) (by omega), Int.toNat_natCast, bz_u _ (by omega), hP.2.2.2.1 r c hr hc, show iI 0 = (0 : Int32) from rfl, oI_z]
  refine ⟨fun q => absurd q (by omega), fun _ => ⟨fun q => absurd q (by omega), fun _ => ⟨vpk (by omega) (by omega), fun q => ⟨Or.inl rfl, ?_⟩, fun q => ⟨Or.inr rfl, ?_⟩⟩⟩⟩
  · rw [q] at h; exact h
  · rw [show hrB L z (16 * r + c) (nD L z) = true by simpa using q] at h; exact h
theorem cnt_lt {p q : Nat → Bool} {k : Nat} (hk : q k = true) (hp : p k = false) : ∀ n, k < n → (∀ i, i < n → p i = true → q i = true) → cnt p n < cnt q n
  | 0, h, _ => absurd h (Nat.not_lt_zero k)
  | n + 1, h, hm => by
    unfold cnt
    by_cases c : k = n
    · subst c
      have := cnt_mono k (fun i hi => hm i (by omega))
      rw [hk, hp]; simp; omega
    · have := cnt_lt hk hp n (by omega) (fun i hi => hm i (by omega))
      have h2 := hm n (by omega)
      cases h1 : p n with
      | false => simp; omega
      | true => rw [h2 h1]; simp; omega
theorem C_stays {d j w c r : Nat} {y : SY} {z t k : Int} {x v : Int32} {P0 P1 P2 P3 P4 P5 P6 : PS} {R : List PS} {Q : Option AV → List PS → Prop} (hx : x = iI (c : Nat)) (hv : v = iI (r : Nat)) (hc : c < 16) (hr : r < 16) (hk : -2147483648 ≤ k ∧ k < 2147483648) (hY : SyK y w z t) (hS : StC j y z t P3 P6) (h : Q (some (vI (oI (decide (3 ≤ mny y k y.1 ∧ sen y z k (16 * r + c) y.1 = mny y k y.1))))) (P0 :: P1 :: P2 :: P3 :: P4 :: P5 :: P6 :: R)) : Tri 83 (d + 1) [vR 6 j 0, vI x, vI v, vI (iI k)] (P0 :: P1 :: P2 :: P3 :: P4 :: P5 :: P6 :: R) Q := by
  subst hx hv
  have hc12 := hY.1
  refine enX7_stays ?_
  unfold fX7_stays_0
  have hsub : ∀ n i, i < n → (ctB y i k && hrB (y.2.1 i) z (16 * r + c) (nD (y.2.1 i) z)) = true → ctB y i k = true := fun n i _ q => by simp only [Bool.and_eq_true] at q; exact q.1
  have key : ∀ (m q : Nat), q + m = y.1 → sen y z k (16 * r + c) q = mny y k q → cX7_stays_6 (0, 0, 0, 0) d j (iI (c : Nat)) (iI (r : Nat)) (iI k) (iI (mny y k q : Nat)) (iI (q : Nat)) P0 P1 P2 P3 P4 P5 P6 R Q := by
    intro m
    induction m with
    | zero =>
      intro q hq he
      have eq : q = y.1 := by omega
      subst eq
      have hm : mny y k y.1 ≤ 12 := Nat.le_trans (cnt_le _ _) hc12
      refine gX7_stays_6 ?_
      unfold fX7_stays_6
      rw [hS.1, iI_le (by omega) (by omega) (by omega) (by omega), show (3 : Int32) = iI 3 from rfl, iI_lt (by omega) (by omega) (by omega) (by omega)]
      refine ⟨fun _ => ⟨fun q => ⟨Or.inl rfl, ?_⟩, fun q => ⟨Or.inr rfl, ?_⟩⟩, fun q => absurd (by omega) q⟩
      · rw [decide_eq_false (by omega)] at h; exact h
      · rw [decide_eq_true ⟨by omega, he⟩] at h; exact h
    | succ m ih =>
      intro q hq he
      have cq : cntS y (q : Nat) k = ctB y q k := by unfold cntS; rw [decide_eq_true (by omega), Bool.true_and, Int.toNat_natCast]
      have sm : mny y k (q + 1) = mny y k q + (if ctB y q k = true then 1 else 0) := rfl
      have ss : sen y z k (16 * r + c) (q + 1) = sen y z k (16 * r + c) q + (if (ctB y q k && hrB (y.2.1 q) z (16 * r + c) (nD (y.2.1 q) z)) = true then 1 else 0) := rfl
      refine gX7_stays_6 ?_
      unfold fX7_stays_6
      rw [hS.1, iI_le (by omega) (by omega) (by omega) (by omega), show iI (q : Nat) + 1 = iI ((q + 1 : Nat)) from iI_add (q : Nat) 1]
      refine ⟨fun g => absurd g (by omega), fun _ => C_known rfl rfl (by omega) hk hY hS (fun i g1 g2 g3 => ?_) (fun g1 => ?_)⟩
      · rw [cq] at g1
        rw [Int.toNat_natCast] at g3
        dsimp only [hx7, rR]
        refine ⟨rfl, C_hasMiddleIn rfl rfl hc hr g3 ?_⟩
        dsimp only [hx7, rI]
        rw [oI_z]
        refine ⟨fun g4 => ?_, fun g4 => ⟨Or.inl rfl, ?_⟩⟩
        · have hh : hrB (y.2.1 q) z (16 * r + c) (nD (y.2.1 q) z) = true := by simpa using g4
          have := ih (q + 1) (by omega) (by rw [sm, ss, g1, hh, he]; rfl)
          rw [sm, g1] at this
          rw [show iI (mny y k q : Nat) + 1 = iI ((mny y k q + 1 : Nat)) from iI_add _ 1]
          exact this
        · have lt : sen y z k (16 * r + c) y.1 < mny y k y.1 := cnt_lt (k := q) g1 (by rw [g1, g4]; rfl) y.1 (by omega) (hsub y.1)
          rw [decide_eq_false (by omega)] at h; exact h
      · rw [cq] at g1
        dsimp only [hx7, rR]
        have := ih (q + 1) (by omega) (by rw [sm, ss, g1, he]; rfl)
        rw [sm, g1] at this
        exact this
  exact key y.1 0 (by omega) rfl
theorem C_specksOf {d j i p w : Nat} {y : SY} {z t k : Int} {P0 P1 P2 P3 P4 P5 P6 : PS} {R : List PS} {Q : Option AV → List PS → Prop} (hk : -2147483648 ≤ k ∧ k < 2147483648) (hY : SyK y w z t) (hS : StC j y z t P3 P6) (hp : p < y.1) (hP : PiC i (y.2.1 p) z P3) (h : ∀ x : Int32, (∀ e, e < 32 → bz x e = (decide (e < nD (y.2.1 p) z) && decide (knd y z k p e = 2))) → Q (some (vI x)) (P0 :: P1 :: P2 :: P3 :: P4 :: P5 :: P6 :: R)) : Tri 82 (d + 2) [vR 6 j 0, vR 3 i 0, vI (iI k)] (P0 :: P1 :: P2 :: P3 :: P4 :: P5 :: P6 :: R) Q := by
  have h12 := (nD_le (y.2.1 p) z).1
  have hK := (hY.2.2 p hp).1
  refine enX7_specksOf ?_
  unfold fX7_specksOf_0
  have key : ∀ (m e : Nat) (x : Int32), e + m = nD (y.2.1 p) z → (∀ q, q < 32 → bz x q = (decide (q < e) && decide (knd y z k p q = 2))) → cX7_specksOf_5 (0, 0, 0, 0) (d + 1) j i (iI k) x (iI (e : Nat)) P0 P1 P2 P3 P4 P5 P6 R Q := by
    intro m
    induction m with
    | zero =>
      intro e x he hx
      have ee : e = nD (y.2.1 p) z := by omega
      subst ee
      refine gX7_specksOf_5 ?_
      unfold fX7_specksOf_5
      rw [hP.1, iI_le (by omega) (by omega) (by omega) (by omega)]
      exact ⟨fun _ => h x hx, fun c => absurd (by omega) c⟩
    | succ m ih =>
      intro e x he hx
      have b := dt_ok hK.2.2.2.1 hK.2.2.1.1 (show e < nD (y.2.1 p) z by omega)
      have pe := hP.2.1 e (by omega)
      have pb := pxl_lt (t := dt (y.2.1 p) z e) (by omega) (by omega)
      have se := hP.2.2.1 e (by omega)
      rw [decide_eq_true (show e < nD (y.2.1 p) z by omega), Bool.true_and] at se
      have ve : vp_in (iI (e : Nat)) 12 := vpk (by omega) (by omega)
      have no : knd y z k p e ≠ 2 → cX7_specksOf_5 (0, 0, 0, 0) (d + 1) j i (iI k) x (iI ((e + 1 : Nat))) P0 P1 P2 P3 P4 P5 P6 R Q := fun q => ih (e + 1) x (by omega) (fun q' hq' => by
        rw [hx q' hq']
        by_cases c : q' = e
        · rw [c, decide_eq_false q]; simp
        · rw [show decide (q' < e + 1) = decide (q' < e) from decide_eq_decide.mpr (by omega)])
      have yes : knd y z k p e = 2 → cX7_specksOf_5 (0, 0, 0, 0) (d + 1) j i (iI k) (x ||| ((1 : Int32) <<< ((iI (e : Nat)) &&& 31))) (iI ((e + 1 : Nat))) P0 P1 P2 P3 P4 P5 P6 R Q := fun q => ih (e + 1) _ (by omega) (fun q' hq' => by
        rw [bz_or, hx q' hq', bz_1 e (by omega) q' hq']
        by_cases c : q' = e
        · rw [c, decide_eq_true q]; simp
        · rw [show decide (q' < e + 1) = decide (q' < e) from decide_eq_decide.mpr (by omega), decide_eq_false c, Bool.or_false])
      -- the pixel of the dot
      have ex : iI (dt (y.2.1 p) z e).1 / 10 = iI ((pxl (dt (y.2.1 p) z e) % 16 : Nat)) := by
        rw [show (10 : Int32) = iI 10 from rfl, iI_div (by omega) (by omega) (by omega) (by omega)]; refine congrArg iI ?_; omega
      have ey : iI (dt (y.2.1 p) z e).2.1 / 10 = iI ((pxl (dt (y.2.1 p) z e) / 16 : Nat)) := by
        rw [show (10 : Int32) = iI 10 from rfl, iI_div (by omega) (by omega) (by omega) (by omega)]; refine congrArg iI ?_; omega
      refine gX7_specksOf_5 ?_
      unfold fX7_specksOf_5
      rw [hP.1, iI_le (by omega) (by omega) (by omega) (by omega), show (12 : Int32) = iI 12 from rfl, iI_le (by omega) (by omega) (by omega) (by omega), iI_cl (a := (e : Nat)) (by omega) (by omega), Int.toNat_natCast, pe.1, pe.2.1, ex, ey, bz_u _ (by omega), se, oI_z]
      refine ⟨fun c => absurd c (by omega), fun _ => ⟨fun c => absurd c (by omega), fun _ => ⟨ve, by decide, ve, by decide, fun c => ?_, fun c => ?_⟩⟩⟩
      · refine gX7_specksOf_62 ?_
        unfold fX7_specksOf_62
        rw [show iI (e : Nat) + 1 = iI ((e + 1 : Nat)) from iI_add (e : Nat) 1]
        refine ⟨fun q => absurd rfl q, fun _ => C_isSpeckless (by omega) (by omega) hS.2.2.2.1 (fun g => ?_) (fun g => ?_)⟩
        · dsimp only [hx7, rI]
          refine ⟨fun _ => no ?_, fun q => absurd q (by decide)⟩
          unfold knd; rw [c, show spk y z k (pxl (dt (y.2.1 p) z e)) = false from decide_eq_false (fun q => by rw [g] at q; exact absurd q.2.2 (by decide))]; decide
        · dsimp only [hx7, rI]
          refine ⟨fun q => absurd rfl q, fun _ => C_stays rfl rfl (by omega) (by omega) hk hY hS ?_⟩
          dsimp only [hx7, rI]
          rw [oI_dec, show 16 * (pxl (dt (y.2.1 p) z e) / 16) + pxl (dt (y.2.1 p) z e) % 16 = pxl (dt (y.2.1 p) z e) by omega]
          refine ⟨fun q => no ?_, fun q => yes ?_⟩
          · unfold knd; rw [c, show spk y z k (pxl (dt (y.2.1 p) z e)) = false from decide_eq_false (fun q' => q ⟨q'.1, q'.2.1⟩)]; decide
          · have q' := Decidable.not_not.mp q
            unfold knd; rw [c, show spk y z k (pxl (dt (y.2.1 p) z e)) = true from decide_eq_true ⟨q'.1, q'.2, g⟩]; rfl
      · refine gX7_specksOf_62 ?_
        unfold fX7_specksOf_62
        rw [show iI (e : Nat) + 1 = iI ((e + 1 : Nat)) from iI_add (e : Nat) 1]
        refine ⟨fun _ => no ?_, fun q => absurd q (by decide)⟩
        unfold knd; rw [show (dt (y.2.1 p) z e).2.2.2.2 = true by simpa using c]; simp
  exact key (nD (y.2.1 p) z) 0 0 (by omega) (fun q hq => by rw [bz_0]; simp)
theorem C_allDots {d j : Nat} {L : Nat → Int} {z : Int} {P0 P1 P2 P3 : PS} {R : List PS} {Q : Option AV → List PS → Prop} (hP : PiC j L z P3) (h : Q (some (vI (iI ((2 ^ nD L z - 1 : Nat))))) (P0 :: P1 :: P2 :: P3 :: R)) : Tri 40 d [vR 3 j 0] (P0 :: P1 :: P2 :: P3 :: R) Q := by
  have h12 := (nD_le L z).1
  refine enX3_allDots ?_
  unfold fX3_allDots_0
  have hp : 0 < 2 ^ nD L z := Nat.pow_pos (by omega)
  rw [hP.1, one_sl _ (by omega), show (1 : Int32) = iI 1 from rfl, iI_sub, show ((2 ^ nD L z : Nat) : Int) - 1 = ((2 ^ nD L z - 1 : Nat) : Int) by omega]
  exact h
theorem C_pointsOf {d j i p w : Nat} {y : SY} {z t k : Int} {P0 P1 P2 P3 P4 P5 P6 : PS} {R : List PS} {Q : Option AV → List PS → Prop} (hk : -2147483648 ≤ k ∧ k < 2147483648) (hY : SyK y w z t) (hS : StC j y z t P3 P6) (hp : p < y.1) (hP : PiC i (y.2.1 p) z P3) (h : ∀ x : Int32, (∀ e, e < 32 → bz x e = (decide (e < nD (y.2.1 p) z) && ptB y z k p e)) → Q (some (vI x)) (P0 :: P1 :: P2 :: P3 :: P4 :: P5 :: P6 :: R)) : Tri 84 (d + 3) [vR 6 j 0, vR 3 i 0, vI (iI k)] (P0 :: P1 :: P2 :: P3 :: P4 :: P5 :: P6 :: R) Q := by
  have h12 := (nD_le (y.2.1 p) z).1
  refine enX7_pointsOf ?_
  unfold fX7_pointsOf_0
  refine C_allDots hP ?_
  dsimp only [hx7, rI]
  refine C_specksOf hk hY hS hp hP (fun x hx => ?_)
  dsimp only [hx7, rI]
  refine h _ (fun e he => ?_)
  have h2 : 2 ^ nD (y.2.1 p) z ≤ 2 ^ 12 := Nat.pow_le_pow_right (by omega) h12
  rw [bz_and, bz_and, bz_not _ he, bz_not _ he, hx e he, hP.2.2.1 e he, bz_nat _ (by omega), Nat.testBit_two_pow_sub_one]
  unfold ptB knd
  by_cases c : e < nD (y.2.1 p) z
  · cases hs : (dt (y.2.1 p) z e).2.2.2.2 <;> cases hq : spk y z k (pxl (dt (y.2.1 p) z e)) <;> simp [c]
  · simp [c]
theorem C_nthBit {d n : Nat} {p : Nat → Bool} {a : Int} {x v : Int32} {R : List PS} {Q : Option AV → List PS → Prop} (hv : v = iI a) (ha : -2147483648 ≤ a ∧ a < 2147483648) (hn : n ≤ 12) (hx : ∀ e, e < 32 → bz x e = (decide (e < n) && p e)) (h : Q (some (vI (iI (if 0 ≤ a ∧ a < (cnt p n : Nat) then (nth p a.toNat n : Nat) else -1)))) R) : Tri 165 d [vI x, vI v] R Q := by
  subst hv
  refine enX11_nthBit ?_
  unfold fX11_nthBit_0
  have ex : ∀ e, e ≤ 12 → n ≤ e → cnt (fun q => decide (q < n) && p q) e = cnt p n := fun e _ h2 => cnt_cut p e h2
  have key : ∀ (m e : Nat), e + m = 12 → ¬ (0 ≤ a ∧ a < (cnt (fun q => decide (q < n) && p q) e : Nat)) → cX11_nthBit_4 (0, 0, 0, 0) d x (iI a) (iI (cnt (fun q => decide (q < n) && p q) e : Nat)) (iI (e : Nat)) R Q := by
    intro m
    induction m with
    | zero =>
      intro e he hc
      refine gX11_nthBit_4 ?_
      unfold fX11_nthBit_4
      rw [show (12 : Int32) = iI 12 from rfl, iI_le (by omega) (by omega) (by omega) (by omega)]
      rw [ex e (by omega) (by omega)] at hc
      rw [if_neg hc] at h
      exact ⟨fun _ => h, fun c => absurd (by omega) c⟩
    | succ m ih =>
      intro e he hc
      have hb := hx e (by omega)
      have hle : cnt (fun q => decide (q < n) && p q) e ≤ e := cnt_le _ _
      have st : cnt (fun q => decide (q < n) && p q) (e + 1) = cnt (fun q => decide (q < n) && p q) e + (if (decide (e < n) && p e) = true then 1 else 0) := rfl
      have ih' := ih (e + 1) (by omega)
      rw [st] at ih'
      refine gX11_nthBit_4 ?_
      unfold fX11_nthBit_4
      rw [show (12 : Int32) = iI 12 from rfl, iI_le (by omega) (by omega) (by omega) (by omega), bz_u _ (by omega), hb, oI_z, iI_eq (by omega) (by omega) (by omega) (by omega), show iI (e : Nat) + 1 = iI ((e + 1 : Nat)) from iI_add (e : Nat) 1, show iI (cnt (fun q => decide (q < n) && p q) e : Nat) + 1 = iI ((cnt (fun q => decide (q < n) && p q) e + 1 : Nat)) from iI_add _ 1]
      refine ⟨fun c => absurd c (by omega), fun _ => ⟨fun c => ?_, fun c => ⟨fun c1 => ?_, fun c1 => ?_⟩⟩⟩
      · rw [c] at ih'; exact ih' hc
      · have ct : (decide (e < n) && p e) = true := by simpa using c
        rw [ct] at ih'
        exact ih' (by simp only [if_true]; omega)
      · have ct : (decide (e < n) && p e) = true := by simpa using c
        simp only [Bool.and_eq_true, decide_eq_true_eq] at ct
        have e1 : cnt (fun q => decide (q < n) && p q) e = cnt p e := cnt_congr e (fun i hi => by rw [decide_eq_true (show i < n by omega), Bool.true_and])
        have e2 : nth p (cnt p e) n = e := nth_at ct.2 n ct.1
        have e3 := cnt_le_mono p (show e + 1 ≤ n by omega)
        have e4 : cnt p (e + 1) = cnt p e + 1 := by show cnt p e + (if p e = true then 1 else 0) = _; rw [if_pos ct.2]
        rw [if_pos (by omega), show a.toNat = cnt p e by omega, e2] at h
        exact h
  exact key 12 0 (by omega) (fun q => by have : cnt (fun q => decide (q < n) && p q) 0 = 0 := rfl; omega)
theorem bcn_cut {x : Int32} {n : Nat} {p : Nat → Bool} (hn : n ≤ 32) (hx : ∀ e, e < 32 → bz x e = (decide (e < n) && p e)) : bcn x = cnt p n := by
  unfold bcn
  rw [cnt_congr 32 (fun e he => hx e he), cnt_cut p 32 hn]
theorem nK_sm {y : SY} {z k : Int} {p : Nat} : nK y z k p 1 = cnt (fun e => (dt (y.2.1 p) z e).2.2.2.2) (nD (y.2.1 p) z) := cnt_congr _ (fun e _ => by
  unfold knd
  cases hs : (dt (y.2.1 p) z e).2.2.2.2 with
  | true => simp
  | false => cases hq : spk y z k (pxl (dt (y.2.1 p) z e)) <;> simp)
theorem C_dots {d w : Nat} {y : SY} {z t a k : Int} {x : Int32} {P0 P1 P2 P3 P4 P5 P6 P7 P8 P9 P10 P11 P12 : PS} {R : List PS} {Q : Option AV → List PS → Prop} (ha : -2147483648 ≤ a ∧ a < 2147483648) (hk : -2147483648 ≤ k ∧ k < 2147483648) (hY : SyK y w z t) (hS : StC 0 y z t P3 P6) (h : Q (some (vI (iI (dotsS y z a k x)))) (P0 :: P1 :: P2 :: P3 :: P4 :: P5 :: P6 :: P7 :: P8 :: P9 :: P10 :: P11 :: P12 :: R)) : Tri 133 (d + 4) [vR 12 0 0, vI (iI a), vI x, vI (iI k)] (P0 :: P1 :: P2 :: P3 :: P4 :: P5 :: P6 :: P7 :: P8 :: P9 :: P10 :: P11 :: P12 :: R) Q := by
  refine enX11_dots ?_
  unfold fX11_dots_0
  unfold dotsS at h
  refine C_known rfl rfl ha hk hY hS (fun i ct g2 g3 => ?_) (fun ct => ?_)
  · have ap := cntS_lt ct
    have h12 := (nD_le (y.2.1 a.toNat) z).1
    rw [if_pos ct] at h
    dsimp only [hx13, rR]
    refine ⟨rfl, fun c0 => ?_, fun c0 => ⟨fun c1 => J_bitCount ?_, fun c1 => ⟨fun c2 => C_specksOf hk hY hS ap.2 g3 (fun v hv => ?_), fun c2 => ⟨fun c3 => C_pointsOf hk hY hS ap.2 g3 (fun v hv => ?_), fun c3 => ?_⟩⟩⟩⟩
    · rw [if_pos c0] at h; rw [g3.1]; exact h
    · dsimp only [hx13, rI]; rw [if_neg c0, if_pos c1, nK_sm] at h; rw [bcn_cut (by omega) g3.2.2.1]; exact h
    · dsimp only [hx13, rI]
      refine J_bitCount ?_
      dsimp only [hx13, rI]
      rw [if_neg c0, if_neg c1, if_pos c2] at h
      rw [bcn_cut (by omega) hv]; exact h
    · dsimp only [hx13, rI]
      refine J_bitCount ?_
      dsimp only [hx13, rI]
      rw [if_neg c0, if_neg c1, if_neg c2, if_pos c3] at h
      rw [bcn_cut (by omega) hv]; exact h
    · rw [if_neg c0, if_neg c1, if_neg c2, if_neg c3] at h; exact h
  · rw [ct] at h
    dsimp only [hx13, rR]
    exact h
theorem C_kindOf {d i e p w : Nat} {y : SY} {z t k : Int} {x : Int32} {P0 P1 P2 P3 P4 P5 P6 P7 P8 P9 P10 P11 P12 : PS} {R : List PS} {Q : Option AV → List PS → Prop} (hx : x = iI (e : Nat)) (hk : -2147483648 ≤ k ∧ k < 2147483648) (hY : SyK y w z t) (hS : StC 0 y z t P3 P6) (hp : p < y.1) (hP : PiC i (y.2.1 p) z P3) (he : e < nD (y.2.1 p) z) (h : Q (some (vI (iI (knd y z k p e)))) (P0 :: P1 :: P2 :: P3 :: P4 :: P5 :: P6 :: P7 :: P8 :: P9 :: P10 :: P11 :: P12 :: R)) : Tri 158 (d + 3) [vR 12 0 0, vR 3 i 0, vI x, vI (iI k)] (P0 :: P1 :: P2 :: P3 :: P4 :: P5 :: P6 :: P7 :: P8 :: P9 :: P10 :: P11 :: P12 :: R) Q := by
  subst hx
  have h12 := (nD_le (y.2.1 p) z).1
  refine enX11_kindOf ?_
  unfold fX11_kindOf_0
  rw [bz_u _ (by omega), hP.2.2.1 e (by omega), decide_eq_true he, Bool.true_and, oI_z]
  refine ⟨fun c => C_specksOf hk hY hS hp hP (fun v hv => ?_), fun c => ?_⟩
  · dsimp only [hx13, rI]
    rw [bz_u _ (by omega), hv e (by omega), decide_eq_true he, Bool.true_and, oI_dec]
    refine ⟨fun q => ?_, fun q => ?_⟩
    · have : knd y z k p e = 0 := by
        unfold knd at q ⊢
        rw [c] at q ⊢
        cases hq : spk y z k (pxl (dt (y.2.1 p) z e)) with
        | true => rw [hq] at q; exact absurd rfl q
        | false => rfl
      rw [this] at h; exact h
    · rw [Decidable.not_not.mp q] at h; exact h
  · have : knd y z k p e = 1 := by unfold knd; rw [show (dt (y.2.1 p) z e).2.2.2.2 = true by simpa using c]; rfl
    rw [this] at h; exact h
theorem C_dot {d w : Nat} {y : SY} {z t a b k : Int} {x : Int32} {P0 P1 P2 P3 P4 P5 P6 P7 P8 P9 P10 P11 P12 : PS} {R : List PS} {Q : Option AV → List PS → Prop} (ha : -2147483648 ≤ a ∧ a < 2147483648) (hb : -2147483648 ≤ b ∧ b < 2147483648) (hk : -2147483648 ≤ k ∧ k < 2147483648) (hY : SyK y w z t) (hS : StC 0 y z t P3 P6) (h : Q (some (vI (iI (dotS y z a b k x)))) (P0 :: P1 :: P2 :: P3 :: P4 :: P5 :: P6 :: P7 :: P8 :: P9 :: P10 :: P11 :: P12 :: R)) : Tri 134 (d + 4) [vR 12 0 0, vI (iI a), vI (iI b), vI x, vI (iI k)] (P0 :: P1 :: P2 :: P3 :: P4 :: P5 :: P6 :: P7 :: P8 :: P9 :: P10 :: P11 :: P12 :: R) Q := by
  refine enX11_dot ?_
  unfold fX11_dot_0
  unfold dotS at h
  refine C_known rfl rfl ha hk hY hS (fun i ct g2 g3 => ?_) (fun ct => ?_)
  · have ap := cntS_lt ct
    have h12 := (nD_le (y.2.1 a.toNat) z).1
    dsimp only [hx13, rR]
    refine ⟨rfl, ?_⟩
    rw [g3.1, show (0 : Int32) = iI 0 from rfl, show (12 : Int32) = iI 12 from rfl, iI_lt (by omega) (by omega) (by omega) (by omega), iI_le (by omega) (by omega) (by omega) (by omega), iI_lt (by omega) (by omega) (by omega) (by omega)]
    have no : ¬ (0 ≤ b ∧ b < (nD (y.2.1 a.toNat) z : Nat)) → Q (some (vI (iI (-1)))) (P0 :: P1 :: P2 :: P3 :: P4 :: P5 :: P6 :: P7 :: P8 :: P9 :: P10 :: P11 :: P12 :: R) := fun q => by rw [if_neg (fun g => q g.2)] at h; exact h
    refine ⟨fun q => no (by omega), fun q => ⟨fun q1 => no (by omega), fun q1 => ⟨fun q2 => ?_, fun q2 => absurd (by omega) q2⟩⟩⟩
    rw [if_pos ⟨ct, by omega⟩, show (0 : Int32) = iI 0 from rfl] at h
    have e := g3.2.1 b.toNat (by omega)
    have vb : vp_in (iI b) 12 := by rw [iI_in (by omega) (by omega)]; omega
    rw [iI_cl (a := b) (by omega) (by omega), e.1, e.2.1, e.2.2.1, e.2.2.2]
    refine ⟨fun c0 => ⟨vb, ?_⟩, fun c0 => ⟨fun c1 => ⟨vb, ?_⟩, fun c1 => ⟨fun c2 => ⟨vb, ?_⟩, fun c2 => ⟨fun c3 => C_kindOf (e := b.toNat) (by congr 1; omega) hk hY hS ap.2 g3 (by omega) ?_, fun c3 => ⟨fun c4 => ⟨vb, ?_⟩, fun c4 => ?_⟩⟩⟩⟩⟩
    · rw [if_pos c0] at h; exact h
    · rw [if_neg c0, if_pos c1] at h; exact h
    · rw [if_neg c0, if_neg c1, if_pos c2] at h; exact h
    · dsimp only [hx13, rI]; rw [if_neg c0, if_neg c1, if_neg c2, if_pos c3] at h; exact h
    · rw [if_neg c0, if_neg c1, if_neg c2, if_neg c3, if_pos c4] at h; exact h
    · rw [if_neg c0, if_neg c1, if_neg c2, if_neg c3, if_neg c4] at h; exact h
  · rw [if_neg (fun g => by rw [ct] at g; exact absurd g.1 (by decide))] at h
    dsimp only [hx13, rR]
    exact h
theorem C_point {d w : Nat} {y : SY} {z t a b k : Int} {P0 P1 P2 P3 P4 P5 P6 P7 P8 P9 P10 P11 P12 : PS} {R : List PS} {Q : Option AV → List PS → Prop} (ha : -2147483648 ≤ a ∧ a < 2147483648) (hb : -2147483648 ≤ b ∧ b < 2147483648) (hk : -2147483648 ≤ k ∧ k < 2147483648) (hY : SyK y w z t) (hS : StC 0 y z t P3 P6) (h : Q (some (vI (iI (pointS y z a b k)))) (P0 :: P1 :: P2 :: P3 :: P4 :: P5 :: P6 :: P7 :: P8 :: P9 :: P10 :: P11 :: P12 :: R)) : Tri 135 (d + 4) [vR 12 0 0, vI (iI a), vI (iI b), vI (iI k)] (P0 :: P1 :: P2 :: P3 :: P4 :: P5 :: P6 :: P7 :: P8 :: P9 :: P10 :: P11 :: P12 :: R) Q := by
  refine enX11_point ?_
  unfold fX11_point_0
  unfold pointS at h
  refine C_known rfl rfl ha hk hY hS (fun i ct g2 g3 => ?_) (fun ct => ?_)
  · have ap := cntS_lt ct
    dsimp only [hx13, rR]
    refine ⟨rfl, C_pointsOf hk hY hS ap.2 g3 (fun v hv => ?_)⟩
    dsimp only [hx13, rI]
    refine C_nthBit rfl hb (nD_le (y.2.1 a.toNat) z).1 hv ?_
    dsimp only [hx13, rI]
    rw [ct] at h
    by_cases c : 0 ≤ b ∧ b < (cnt (ptB y z k a.toNat) (nD (y.2.1 a.toNat) z) : Nat)
    · rw [if_pos ⟨rfl, c⟩] at h; rw [if_pos c]; exact h
    · rw [if_neg (fun g => c g.2)] at h; rw [if_neg c]; exact h
  · rw [if_neg (fun g => by rw [ct] at g; exact absurd g.1 (by decide))] at h
    dsimp only [hx13, rR]
    exact h
