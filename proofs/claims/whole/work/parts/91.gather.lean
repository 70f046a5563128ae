/-! ===== the class: a DOT is gathered and put ===== -/
noncomputable def rem (L : Nat → Int) (z : Int) (k i : Nat) : Int := if dcd (∃ j, j < k ∧ fst1 L z j ∧ rch L z j i) = true then 0 else L i
theorem rem_ok {L : Nat → Int} {z : Int} (hL : LOK L) (k : Nat) : LOK (rem L z k) := fun i => by unfold rem; have := hL i; split <;> omega
theorem rem_br {L : Nat → Int} {z : Int} (hz : 0 ≤ z) {k i : Nat} : brt (rem L z k) z i ↔ brt L z i ∧ ¬ ∃ j, j < k ∧ fst1 L z j ∧ rch L z j i := by
  unfold brt rem
  constructor
  · intro ⟨h1, h2⟩
    by_cases c : ∃ j, j < k ∧ fst1 L z j ∧ rch L z j i
    · rw [if_pos (dcd_t.mpr c)] at h2; omega
    · rw [if_neg (fun q => c (dcd_t.mp q))] at h2; exact ⟨⟨h1, h2⟩, c⟩
  · intro ⟨⟨h1, h2⟩, c⟩
    rw [if_neg (fun q => c (dcd_t.mp q))]; exact ⟨h1, h2⟩
theorem rem_fst {L : Nat → Int} {z : Int} (hz : 0 ≤ z) {k : Nat} : brt (rem L z k) z k ↔ fst1 L z k := by
  rw [rem_br hz]
  constructor
  · intro ⟨hb, hn⟩
    refine ⟨hb, fun j hj hbj hr => ?_⟩
    obtain ⟨i, h1, h2, h3⟩ := fst_ex (j + 1) j (by omega) hbj
    exact hn ⟨i, by omega, h2, rch_tr h3 hr⟩
  · intro hf
    exact ⟨hf.1, fun ⟨j, h1, h2, h3⟩ => hf.2 j h1 h2.1 h3⟩
theorem rem_cmp {L : Nat → Int} {z : Int} (hz : 0 ≤ z) {k : Nat} (hf : fst1 L z k) (q : Nat) : cmp (rem L z k) z k q = cmp L z k q := by
  have hbk := (rem_fst hz).mpr hf
  unfold cmp
  have e : (brt (rem L z k) z k ∧ rch (rem L z k) z k q) ↔ (brt L z k ∧ rch L z k q) := by
    constructor
    · intro ⟨_, h⟩
      exact ⟨hf.1, h (fun x => rch L z k x) (rch_rf k) (fun i j hi ha hb => rch_st hi ha ((rem_br hz).mp hb).1)⟩
    · intro ⟨_, h⟩
      refine ⟨hbk, (h (fun x => rch L z k x ∧ rch (rem L z k) z k x) ⟨rch_rf k, rch_rf k⟩ (fun i j hi ha hb => ?_)).2⟩
      have r1 := rch_st hi.1 ha hb
      refine ⟨r1, rch_st hi.2 ha ((rem_br hz).mpr ⟨hb, fun ⟨u, h1, h2, h3⟩ => ?_⟩)⟩
      exact hf.2 u h1 h2.1 (rch_tr h3 (rch_sy r1 hf.1))
  by_cases c : brt L z k ∧ rch L z k q
  · rw [dcd_t.mpr c, dcd_t.mpr (e.mpr c)]
  · rw [dcd_f.mpr c, dcd_f.mpr (fun g => c (e.mp g))]
theorem rem_on {L : Nat → Int} {z : Int} {k : Nat} (hf : fst1 L z k) {q : Nat} (hq : cmp L z k q = true) : rem L z k q = L q := by
  unfold rem
  rw [if_neg]
  intro g
  obtain ⟨u, h1, h2, h3⟩ := dcd_t.mp g
  exact hf.2 u h1 h2.1 (rch_tr h3 (rch_sy (dcd_t.mp hq).2 hf.1))
theorem smB_on {S : Nat → Bool} {g h : Nat → Int} : ∀ n, (∀ i, i < n → S i = true → g i = h i) → smB S g n = smB S h n
  | 0, _ => rfl
  | n + 1, e => by
    rw [smB_s, smB_s, smB_on n (fun i hi => e i (by omega))]
    by_cases c : S n = true
    · rw [if_pos c, if_pos c, e n (by omega) c]
    · rw [if_neg c, if_neg c]
theorem rem_up {L : Nat → Int} {z : Int} {k : Nat} (hf : fst1 L z k) (i : Nat) : rem L z (k + 1) i = if cmp L z k i = true then 0 else rem L z k i := by
  unfold rem
  by_cases c : cmp L z k i = true
  · rw [if_pos c, if_pos (dcd_t.mpr ⟨k, by omega, hf, (dcd_t.mp c).2⟩)]
  · rw [if_neg c]
    by_cases c2 : ∃ j, j < k ∧ fst1 L z j ∧ rch L z j i
    · obtain ⟨j, h1, h2⟩ := c2
      rw [if_pos (dcd_t.mpr ⟨j, by omega, h2⟩), if_pos (dcd_t.mpr ⟨j, h1, h2⟩)]
    · rw [if_neg (fun q => c2 (dcd_t.mp q)), if_neg]
      intro q
      obtain ⟨j, h1, h2, h3⟩ := dcd_t.mp q
      by_cases cj : j = k
      · subst cj; exact c (dcd_t.mpr ⟨hf.1, h3⟩)
      · exact c2 ⟨j, by omega, h2, h3⟩
theorem rem_no {L : Nat → Int} {z : Int} {k : Nat} (hf : ¬ fst1 L z k) (i : Nat) : rem L z (k + 1) i = rem L z k i := by
  unfold rem
  have e : (∃ j, j < k + 1 ∧ fst1 L z j ∧ rch L z j i) ↔ ∃ j, j < k ∧ fst1 L z j ∧ rch L z j i := by
    constructor
    · intro ⟨j, h1, h2, h3⟩
      by_cases cj : j = k
      · subst cj; exact absurd h2 hf
      · exact ⟨j, by omega, h2, h3⟩
    · intro ⟨j, h1, h2⟩; exact ⟨j, by omega, h2⟩
  by_cases c : ∃ j, j < k ∧ fst1 L z j ∧ rch L z j i
  · rw [if_pos (dcd_t.mpr c), if_pos (dcd_t.mpr (e.mpr c))]
  · rw [if_neg (fun q => c (dcd_t.mp q)), if_neg (fun q => c (e.mp (dcd_t.mp q)))]
/-- what is left of the lights -/
def LgC (L : Nat → Int) (z : Int) (k : Nat) (P : PS) : Prop := gI P 0 3 = iI z ∧ ∀ i, i < 256 → gA P 0 0 i = iI (rem L z k i)
theorem C_gather {d j k : Nat} {L : Nat → Int} {z : Int} {x : Int32} {P0 P1 P2 P3 P4 P5 P6 P7 P8 P9 : PS} {R : List PS} {Q : Option AV → List PS → Prop} (hx : x = iI (k : Nat)) (hL : LOK L) (hz : 0 ≤ z ∧ z ≤ 9) (hk : k < 256) (hf : fst1 L z k) (hG : LgC L z k P9) (hP : PkC j L z (cnt (fstB L z) k) P3)
    (h : ∀ P3' P9', LgC L z (k + 1) P9' → PkC j L z (cnt (fstB L z) (k + 1)) P3' → FrO j [5, 6] [] [0, 1, 2, 3] [] P3 P3' → Fr rcI [] rcA [] P9 P9' → Q none (P0 :: P1 :: P2 :: P3' :: P4 :: P5 :: P6 :: P7 :: P8 :: P9' :: R)) : Tri 52 (d + 2) [vR 9 0 0, vI x, vR 3 j 0] (P0 :: P1 :: P2 :: P3 :: P4 :: P5 :: P6 :: P7 :: P8 :: P9 :: R) Q := by
  subst hx
  have hbr := (rem_fst (k := k) hz.1).mpr hf
  have hcn : cnt (fstB L z) k < nDt L z := by
    have := cnt_le_mono (fstB L z) (show k + 1 ≤ 256 by omega)
    rw [cnt_f1 hf] at this
    unfold nDt; omega
  have hpx : pxD L z (cnt (fstB L z) k) = k := nth_at (dcd_t.mpr hf) 256 hk
  refine enX4_gather ?_
  unfold fX4_gather_0
  have eq : iI (k : Nat) / 16 = iI (rowP k) := by
    rw [show (16 : Int32) = iI 16 from rfl, iI_div (by omega) (by omega) (by omega) (by omega)]; rfl
  have er : iI (k : Nat) - iI (rowP k) * 16 = iI (colP k) := by
    rw [show (16 : Int32) = iI 16 from rfl, iI_mul, iI_sub]; refine congrArg iI ?_; unfold colP rowP; omega
  have ck := colP_bd k
  have rk := rowP_bd hk
  have ek : (16 * rowP k + colP k).toNat = k := by unfold colP rowP; omega
  rw [eq, er]
  refine ⟨by decide, by decide, ?_⟩
  have F0 : Fr rcI [] rcA [] P9 (sI (sI (sI (sI (sI (sI (sI (sI P9 0 2 (0 : Int32)) 0 4 (0 : Int32)) 0 5 (0 : Int32)) 0 6 (0 : Int32)) 0 7 (16 : Int32)) 0 8 (0 : Int32)) 0 9 (16 : Int32)) 0 10 (0 : Int32)) := (((((((Fr.rf.sI (by simp)).sI (by simp)).sI (by simp)).sI (by simp)).sI (by simp)).sI (by simp)).sI (by simp)).sI (by simp)
  have G0 : GtC (rem L z k) z (fun _ => false) 0 (fun _ => 0) (sI (sI (sI (sI (sI (sI (sI (sI P9 0 2 (0 : Int32)) 0 4 (0 : Int32)) 0 5 (0 : Int32)) 0 6 (0 : Int32)) 0 7 (16 : Int32)) 0 8 (0 : Int32)) 0 9 (16 : Int32)) 0 10 (0 : Int32)) := by
    refine ⟨fun i hi => ?_, hG.1, rfl, (cnt_zero 256 (fun _ _ => rfl)).symm, fun i hi => absurd hi (Nat.not_lt_zero i), fun q _ (hq : false = true) => absurd hq (by decide), ?_, ?_, ?_, 16, 0, 16, 0, ?_, rfl, rfl, rfl, rfl⟩
    · show gA P9 0 0 i = _
      rw [hG.2 i hi]; rfl
    · rw [smB_zero 256 (fun _ _ => rfl)]; rfl
    · rw [smB_zero 256 (fun _ _ => rfl)]; rfl
    · rw [smB_zero 256 (fun _ _ => rfl)]; rfl
    · exact ⟨fun q _ (hq : false = true) => absurd hq (by decide), ⟨by omega, by omega, Or.inl rfl⟩, ⟨by omega, by omega, Or.inl rfl⟩, ⟨by omega, by omega, Or.inl rfl⟩, by omega, by omega, Or.inl rfl⟩
  generalize sI (sI (sI (sI (sI (sI (sI (sI P9 0 2 (0 : Int32)) 0 4 (0 : Int32)) 0 5 (0 : Int32)) 0 6 (0 : Int32)) 0 7 (16 : Int32)) 0 8 (0 : Int32)) 0 9 (16 : Int32)) 0 10 (0 : Int32) = A0 at *
  refine C_reach rfl rfl (by omega) (by omega) (rem_ok hL k) hz G0 (fun q => ?_) (fun A1 _ _ _ _ G1 f1 => ?_)
  · rw [ek] at q
    rcases q with q | q | q
    · exact absurd ⟨by omega, by omega⟩ q
    · exact absurd q (by decide)
    · exact absurd hbr.2 q
  dsimp only [hx10, rV]
  rw [ek] at G1
  refine C_gather56 (PA := P9) (a := k) (rem_ok hL k) hz hbr (fun n o A sm GA hsm fA => ?_) 257 0 1 _ _ A1 (by omega) (by omega) G1 (F0.trs f1) (by unfold upS; rw [if_pos rfl]) (fun q _ hq => ?_) (fun k' hk' => absurd hk' (Nat.not_lt_zero k'))
  · have eS : (cmp (rem L z k) z k) = cmp L z k := funext (fun q => rem_cmp hz.1 hf q)
    rw [eS] at GA hsm
    obtain ⟨g1, g2, g3, g4, -, -, g7, g8, g9, -⟩ := GA
    have s1 : smB (cmp L z k) (rem L z k) 256 = smB (cmp L z k) L 256 := smB_on 256 (fun i _ hi => rem_on hf hi)
    have s2 : smB (cmp L z k) (gX (rem L z k)) 256 = smB (cmp L z k) (gX L) 256 := smB_on 256 (fun i _ hi => by unfold gX; rw [rem_on hf hi])
    have s3 : smB (cmp L z k) (gY (rem L z k)) 256 = smB (cmp L z k) (gY L) 256 := smB_on 256 (fun i _ hi => by unfold gY; rw [rem_on hf hi])
    rw [s1] at g7
    rw [s2] at g8
    rw [s3] at g9
    have hd : dq L z (cnt (fstB L z) k) = mkD L (cmp L z k) := by unfold dq; rw [hpx]
    have hpos : 0 < smB (cmp L z k) L 256 := by have := dq_bd hL hz.1 hcn; rw [hpx] at this; exact this
    have bd := mkD_bd (S := cmp L z k) hL hpos
    have hlb := smB_bd (S := cmp L z k) (g := L) (B := 9) (by omega) 256 (fun i _ => hL i)
    have xb := smB_bd (S := cmp L z k) (g := gX L) (B := 1395) (by omega) 256 (fun i hi => by
      have h0 := hL i; have hc := colP_bd i
      unfold gX
      exact ⟨Int.mul_nonneg (by omega) h0.1, Int.le_trans (Int.mul_le_mul (show 10 * colP i + 5 ≤ 155 by omega) h0.2 h0.1 (by omega)) (by omega)⟩)
    have yb := smB_bd (S := cmp L z k) (g := gY L) (B := 1395) (by omega) 256 (fun i hi => by
      have h0 := hL i; have hc := rowP_bd hi
      unfold gY
      exact ⟨Int.mul_nonneg (by omega) h0.1, Int.le_trans (Int.mul_le_mul (show 10 * rowP i + 5 ≤ 155 by omega) h0.2 h0.1 (by omega)) (by omega)⟩)
    refine gX4_gather_170 ?_
    unfold fX4_gather_170
    have n0 : ¬ iI (smB (cmp L z k) L 256) = 0 := by rw [show (0 : Int32) = iI 0 from rfl, iI_eq (by omega) (by omega) (by omega) (by omega)]; omega
    have l0 : ¬ iI (smB (cmp L z k) L 256) ≤ 0 := by rw [show (0 : Int32) = iI 0 from rfl, iI_le (by omega) (by omega) (by omega) (by omega)]; omega
    rw [g7, g8, g9, g3]
    refine ⟨fun q => absurd q l0, fun _ => ⟨n0, n0, ?_⟩⟩
    refine C_insert hL hz.1 hcn ?_ ?_ ?_ ?_ ?_ hP (fun P3' p' f' => ?_)
    · rw [hd]; exact iI_div xb.1 (by omega) hpos (by omega)
    · rw [hd]; exact iI_div yb.1 (by omega) hpos (by omega)
    · rw [hd]; rfl
    · rw [hd, g4]; rfl
    · rw [hd, hsm]; rfl
    · dsimp only [hx10, rV]
      refine h P3' A ⟨g2, fun i hi => ?_⟩ (by rw [cnt_f1 hf]; exact p') f' fA
      rw [g1 i hi, rem_up hf]
  · unfold upS at hq
    by_cases c : q = k
    · rw [c]; exact rch_rf k
    · rw [if_neg c] at hq; exact absurd (show false = true from hq) (by decide)
theorem C_finish {d j : Nat} {L : Nat → Int} {z : Int} {P0 P1 P2 P3 : PS} {R : List PS} {Q : Option AV → List PS → Prop} (hL : LOK L) (hz : 0 ≤ z) (hP : PkC j L z (nDt L z) P3) (h : ∀ P', PiC j L z P' → FrO j [6, 7] [] [4] [] P3 P' → Q none (P0 :: P1 :: P2 :: P' :: R)) : Tri 39 (d + 1) [vR 3 j 0] (P0 :: P1 :: P2 :: P3 :: R) Q := by
  have h12 := (nD_le L z).1
  have em : m12 (nDt L z) = nD L z := rfl
  obtain ⟨g1, g2, g3, g4, g5⟩ := hP
  rw [em] at g1 g2 g3
  have hp : 0 < 2 ^ nD L z := Nat.pow_pos (by omega)
  have h2 : 2 ^ nD L z ≤ 2 ^ 12 := Nat.pow_le_pow_right (by omega) h12
  refine enX3_finish ?_
  unfold fX3_finish_0
  refine enX3_allDots ?_
  unfold fX3_allDots_0
  dsimp only [hx4, rI]
  rw [g1, one_sl _ (by omega), show iI ((2 ^ nD L z : Nat)) - 1 = iI ((2 ^ nD L z - 1 : Nat)) by rw [show (1 : Int32) = iI 1 from rfl, iI_sub]; refine congrArg iI ?_; omega]
  have key : ∀ (m e : Nat) (A : PS), e + m = nD L z → FrO j [6, 7] [] [4] [] P3 A → (∀ i, i < 32 → bz (gI A j 6) i = (decide (i < nD L z) && (dt L z i).2.2.2.2)) → gI A j 7 = iI (smB (fun _ => true) (fun i => (dt L z i).2.2.1) e) → (∀ r c, r < 16 → c < 16 → bz (gA A j 4 r) c = hrB L z (16 * r + c) e) → cX3_finish_15 (0, 0, 0, 0) d j (iI (e : Nat)) P0 P1 P2 A R Q := by
    intro m
    induction m with
    | zero =>
      intro e A he fA s1 s2 s3
      have ee : e = nD L z := by omega
      subst ee
      refine gX3_finish_15 ?_
      unfold fX3_finish_15
      rw [fA.2.1 5 (by simp), g1, iI_le (by omega) (by omega) (by omega) (by omega)]
      refine ⟨fun _ => h A ⟨by rw [fA.2.1 5 (by simp)]; exact g1, fun i hi => ?_, s1, s3, s2⟩ fA, fun q => absurd (by omega) q⟩
      have := g2 i hi
      unfold AtC at this
      rw [fA.2.2.2.1 _ _ (by simp), fA.2.2.2.1 _ _ (by simp), fA.2.2.2.1 _ _ (by simp), fA.2.2.2.1 _ _ (by simp)]
      exact this
    | succ m ih =>
      intro e A he fA s1 s2 s3
      have a1 := g2 e (by omega)
      have b := dt_ok hL hz (show e < nD L z by omega)
      have pb := pxl_lt (t := dt L z e) (by omega) (by omega)
      have ve : vp_in (iI (e : Nat)) 12 := vpk (by omega) (by omega)
      have x1 : gA A j 0 e = iI (dt L z e).1 := by rw [fA.2.2.2.1 _ _ (by simp)]; exact a1.1
      have x2 : gA A j 1 e = iI (dt L z e).2.1 := by rw [fA.2.2.2.1 _ _ (by simp)]; exact a1.2.1
      have x3 : gA A j 2 e = iI (dt L z e).2.2.1 := by rw [fA.2.2.2.1 _ _ (by simp)]; exact a1.2.2.1
      have ex : iI (dt L z e).1 / 10 = iI ((pxl (dt L z e) % 16 : Nat)) := by
        rw [show (10 : Int32) = iI 10 from rfl, iI_div (by omega) (by omega) (by omega) (by omega)]; refine congrArg iI ?_; omega
      have ey : iI (dt L z e).2.1 / 10 = iI ((pxl (dt L z e) / 16 : Nat)) := by
        rw [show (10 : Int32) = iI 10 from rfl, iI_div (by omega) (by omega) (by omega) (by omega)]; refine congrArg iI ?_; omega
      refine gX3_finish_15 ?_
      unfold fX3_finish_15
      rw [fA.2.1 5 (by simp), g1, iI_le (by omega) (by omega) (by omega) (by omega), show (12 : Int32) = iI 12 from rfl, iI_le (by omega) (by omega) (by omega) (by omega), iI_cl (a := (e : Nat)) (by omega) (by omega), Int.toNat_natCast, x1, x2, x3, ex, ey, iI_cl (a := ((pxl (dt L z e) / 16 : Nat) : Int)) (by omega) (by omega), Int.toNat_natCast, show iI (e : Nat) + 1 = iI ((e + 1 : Nat)) from iI_add (e : Nat) 1, show (0 : Int32) = iI 0 from rfl, iI_lt (by omega) (by omega) (by omega) (by omega), show (16 : Int32) = iI 16 from rfl, iI_le (by omega) (by omega) (by omega) (by omega), s2, iI_add]
      have vr : vp_in (iI ((pxl (dt L z e) / 16 : Nat))) 16 := vpk (by omega) (by omega)
      refine ⟨fun q => absurd q (by omega), fun _ => ⟨fun q => absurd q (by omega), fun _ => ⟨ve, ve, by decide, fun q => absurd q (by omega), fun _ => ⟨fun q => absurd q (by omega), fun _ => ⟨vr, ve, by decide, vr, ?_⟩⟩⟩⟩⟩
      refine ih (e + 1) _ (by omega) (fA.sI.sA) s1 ?_ (fun r c hr hc => ?_)
      · rw [smB_s]; simp only [if_true]
        show gI (sI A j 7 _) j 7 = _
        rw [gI_sI, if_pos rfl, if_pos rfl]
      · rw [gA_sA, if_pos rfl, if_pos rfl, hrB_s]
        by_cases c1 : r = pxl (dt L z e) / 16
        · rw [if_pos c1, bz_or, bz_1 (pxl (dt L z e) % 16) (by omega) c (by omega)]
          have := s3 r c hr hc
          rw [c1] at this
          rw [this, c1, show decide (c = pxl (dt L z e) % 16) = decide (pxl (dt L z e) = 16 * (pxl (dt L z e) / 16) + c) from decide_eq_decide.mpr (by omega)]
        · rw [if_neg c1, decide_eq_false (show ¬ pxl (dt L z e) = 16 * r + c by omega), Bool.or_false]
          exact s3 r c hr hc
  refine key (nD L z) 0 _ (by omega) (FrO.rf.sI) (fun i hi => ?_) g4 (fun r c hr hc => ?_)
  · rw [gI_sI, if_pos rfl, if_pos rfl, bz_and, bz_nat _ (by omega), Nat.testBit_two_pow_sub_one]
    by_cases c : i < nD L z
    · rw [g3 i c, decide_eq_true c, Bool.and_true, Bool.true_and]; rfl
    · rw [decide_eq_false c, Bool.and_false, Bool.false_and]
  · show bz (gA P3 j 4 r) c = _
    rw [g5 r hr]; exact bz_0 c
