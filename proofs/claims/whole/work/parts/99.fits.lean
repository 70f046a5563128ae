/-! ===== the class: which stars fit two points ===== -/
noncomputable def ftB (X Y : Nat → Int) (l : List SR) (o : Int) (i j s t : Nat) : Bool := dcd (fitS X Y l o i j s t)
theorem fitS_sym {X Y : Nat → Int} {l : List SR} {o : Int} {i j s t : Nat} : fitS X Y l o i j s t ↔ fitS X Y l o i j t s := by unfold fitS; rw [lenS_sym l s t]
theorem ftB_sym (X Y : Nat → Int) (l : List SR) (o : Int) (i j s t : Nat) : ftB X Y l o i j s t = ftB X Y l o i j t s := by
  unfold ftB
  by_cases c : fitS X Y l o i j s t
  · rw [dcd_t.mpr c, dcd_t.mpr (fitS_sym.mp c)]
  · rw [dcd_f.mpr c, dcd_f.mpr (fun g => c (fitS_sym.mp g))]
/-- how many pairs of stars fit two points -/
noncomputable def fitN (X Y : Nat → Int) (l : List SR) (o : Int) (i j : Nat) : Nat := sumN (fun s => cnt (ftB X Y l o i j s) s) l.length
/-- the stars that fit the points i and j -/
def FbC (X Y : Nat → Int) (l : List SR) (o : Int) (i j : Nat) (P : PS) : Prop := ∀ s t, s < 32 → t < 32 → bz (gA P 0 0 (prO i j * 32 + s)) t = (decide (s < l.length ∧ t < l.length ∧ s ≠ t) && ftB X Y l o i j s t)
theorem fitN_bd (X Y : Nat → Int) (l : List SR) (o : Int) (i j : Nat) (hl : l.length ≤ 32) : ∀ n m a, n ≤ 32 → m ≤ 32 → sumN (fun s => cnt (ftB X Y l o i j s) s) n + cnt (ftB X Y l o i j a) m ≤ 2000 := by
  intro n m a hn hm
  have h1 := sumN_le (g := fun s => cnt (ftB X Y l o i j s) s) (B := 32) n (fun i hi => Nat.le_trans (cnt_le _ _) (by omega))
  have h2 := cnt_le (ftB X Y l o i j a) m
  have : n * 32 ≤ 32 * 32 := Nat.mul_le_mul (by omega) (by omega)
  omega
theorem C_findFits {d j kb i r A : Nat} {X Y : Nat → Int} {l : List SR} {f : Nat → Int} {P0 P1 P2 P3 P4 P5 P6 P7 P8 : PS} {R : List PS} {Q : Option AV → List PS → Prop} (hir : i < r) (hrA : r < A) (hA : A ≤ 6) (hX : ∀ i, i < A → (0 ≤ X i ∧ X i ≤ 1395) ∧ 0 ≤ Y i ∧ Y i ≤ 1395) (hP : PlC X Y A P8) (hB : BoC kb l f P2) (hF : FOK f)
    (h : ∀ P3' P8', FbC X Y l (f 4) i r P8' → (∀ q s, q ≠ prO i r → s < 32 → gA P8' 0 0 (q * 32 + s) = gA P8 0 0 (q * 32 + s)) → (∀ q, gA P3' j 8 q = if q = prO i r then iI (fitN X Y l (f 4) i r : Nat) else gA P3 j 8 q) → FrO j [] [] [8] [] P3 P3' → Fr [] [] [0] [] P8 P8' → Q none (P0 :: P1 :: P2 :: P3' :: P4 :: P5 :: P6 :: P7 :: P8' :: R)) : Tri 29 (d + 2) [vR 8 0 0, vR 3 j 0, vI (iI (i : Nat)), vI (iI (r : Nat)), vR 2 kb 0] (P0 :: P1 :: P2 :: P3 :: P4 :: P5 :: P6 :: P7 :: P8 :: R) Q := by
  have hl := hB.1.2.1
  have h4 := hF.2.2.2.2.1
  have hpr := prO_ok r (by omega) i hir
  have bi := hX i (by omega)
  have br := hX r hrA
  have pi' := hP.2 i (by omega)
  have pr' := hP.2 r hrA
  refine enX2_findFits ?_
  unfold fX2_findFits_0
  refine C_pairOf rfl rfl hir (by omega) ?_
  dsimp only [hx9, rI]
  rw [show ((r * (r - 1) / 2 + i : Nat)) = prO i r from rfl]
  have vi : vp_in (iI (i : Nat)) 6 := vpk (by omega) (by omega)
  have vr : vp_in (iI (r : Nat)) 6 := vpk (by omega) (by omega)
  rw [iI_cl (a := (i : Nat)) (by omega) (by omega), iI_cl (a := (r : Nat)) (by omega) (by omega), Int.toNat_natCast, Int.toNat_natCast, pi'.1, pr'.1, iI_sub]
  refine ⟨vi, vr, C_square rfl ?_⟩
  dsimp only [hx9, rI]
  rw [pi'.2, pr'.2, iI_sub]
  refine ⟨vi, vr, C_square rfl ?_⟩
  dsimp only [hx9, rI]
  have b1 := sq_bd (a := X i - X r) (B := 1395) (by omega) (by omega)
  have b2 := sq_bd (a := Y i - Y r) (B := 1395) (by omega) (by omega)
  rw [iI_add, iI_l (by omega) (by omega)]
  refine C_root (s := ((X i - X r) * (X i - X r) + (Y i - Y r) * (Y i - Y r)).toNat) (by refine congrArg iL ?_; omega) (by omega) ?_
  dsimp only [hx9, rL]
  rw [iL_i, show rt ((X i - X r) * (X i - X r) + (Y i - Y r) * (Y i - Y r)).toNat = plen X Y i r from rfl]
  have pb := plen_bd bi br
  generalize hprq : prO i r = π at *
  -- the bits of pairs that were tried
  have inner : ∀ (s : Nat), s < l.length → (∀ A8, Fr [] [] [0] [] P8 A8 → (∀ q u, q ≠ π → u < 32 → gA A8 0 0 (q * 32 + u) = gA P8 0 0 (q * 32 + u)) → (∀ u v, u < 32 → v < 32 → bz (gA A8 0 0 (π * 32 + u)) v = (decide (u ≠ v ∧ u < s + 1 ∧ v < s + 1) && ftB X Y l (f 4) i r u v)) → cX2_findFits_83 (0, 0, 0, 0) (d + 1) j kb (iI (π : Nat)) (iI (plen X Y i r : Nat)) (iI (sumN (fun s => cnt (ftB X Y l (f 4) i r s) s) (s + 1) : Nat)) (iI ((s + 1 : Nat))) P0 P1 P2 P3 P4 P5 P6 P7 A8 R Q) → ∀ (m t : Nat) (A8 : PS), t + m = s → Fr [] [] [0] [] P8 A8 → (∀ q u, q ≠ π → u < 32 → gA A8 0 0 (q * 32 + u) = gA P8 0 0 (q * 32 + u)) → (∀ u v, u < 32 → v < 32 → bz (gA A8 0 0 (π * 32 + u)) v = (decide (u ≠ v ∧ ((u < s ∧ v < s) ∨ (u = s ∧ v < t) ∨ (v = s ∧ u < t))) && ftB X Y l (f 4) i r u v)) → cX2_findFits_103 (0, 0, 0, 0) (d + 1) j kb (iI (π : Nat)) (iI (plen X Y i r : Nat)) (iI ((sumN (fun s => cnt (ftB X Y l (f 4) i r s) s) s + cnt (ftB X Y l (f 4) i r s) t : Nat))) (iI (s : Nat)) (iI (t : Nat)) P0 P1 P2 P3 P4 P5 P6 P7 A8 R Q := by
    intro s hs out m
    induction m with
    | zero =>
      intro t A8 ht fA oA bA
      have et : t = s := by omega
      subst et
      refine gX2_findFits_103 ?_
      unfold fX2_findFits_103
      rw [iI_le (by omega) (by omega) (by omega) (by omega), show iI (t : Nat) + 1 = iI ((t + 1 : Nat)) from iI_add (t : Nat) 1]
      refine ⟨fun _ => out A8 fA oA (fun u v hu hv => ?_), fun c => absurd (by omega) c⟩
      rw [bA u v hu hv]
      congr 1
      exact decide_eq_decide.mpr (by omega)
    | succ m ih =>
      intro t A8 ht fA oA bA
      have lb := lenS_bd hB.1.2.2.1 hs (show t < l.length by omega)
      have st : cnt (ftB X Y l (f 4) i r s) (t + 1) = cnt (ftB X Y l (f 4) i r s) t + (if ftB X Y l (f 4) i r s t = true then 1 else 0) := rfl
      refine gX2_findFits_103 ?_
      unfold fX2_findFits_103
      rw [iI_le (by omega) (by omega) (by omega) (by omega), show iI (t : Nat) + 1 = iI ((t + 1 : Nat)) from iI_add (t : Nat) 1]
      refine ⟨fun c => absurd c (by omega), fun _ => C_lengthOf rfl rfl hs (by omega) hB.1 hB.2.2 ?_⟩
      dsimp only [hx9, rI]
      rw [iI_sub, abs_i (by omega) (by omega), show gI P2 kb 10 = iI (f 4) from hB.2.1 4 (by omega), show (10 : Int32) = iI 10 from rfl, iI_mul]
      have ab0 := abZ_nn ((lenS l s t : Nat) - (plen X Y i r : Nat))
      have ab1 : abZ ((lenS l s t : Nat) - (plen X Y i r : Nat)) ≤ 203492250 := abZ_le (by omega) (by omega)
      have fe : fitS X Y l (f 4) i r s t ↔ abZ ((lenS l s t : Nat) - (plen X Y i r : Nat)) ≤ 10 * f 4 := by
        unfold fitS
        rw [show ((lenS l s t : Nat) : Int) - (plen X Y i r : Nat) = -((plen X Y i r : Nat) - (lenS l s t : Nat)) by omega, abZ_neg]
      rw [iI_lt (by omega) (by omega) (by omega) (by omega)]
      refine ⟨fun c => ?_, fun c => ?_⟩
      · have fb : ftB X Y l (f 4) i r s t = false := dcd_f.mpr (fun g => by have := fe.mp g; omega)
        have := ih (t + 1) A8 (by omega) fA oA (fun u v hu hv => by
          rw [bA u v hu hv]
          by_cases cc : (u = s ∧ v = t) ∨ (v = s ∧ u = t)
          · have e : ftB X Y l (f 4) i r u v = false := by
              rcases cc with ⟨e1, e2⟩ | ⟨e1, e2⟩
              · rw [e1, e2]; exact fb
              · rw [e1, e2, ftB_sym]; exact fb
            rw [e, Bool.and_false, Bool.and_false]
          · congr 1
            exact decide_eq_decide.mpr (by omega))
        rw [st, fb] at this
        exact this
      · have fb : ftB X Y l (f 4) i r s t = true := dcd_t.mpr (fe.mpr (by omega))
        have o1 : iI (π : Nat) * 32 + iI (s : Nat) = iI ((π * 32 + s : Nat)) := by rw [show (32 : Int32) = iI 32 from rfl, iI_mul, iI_add]; congr 1
        have o2 : iI (π : Nat) * 32 + iI (t : Nat) = iI ((π * 32 + t : Nat)) := by rw [show (32 : Int32) = iI 32 from rfl, iI_mul, iI_add]; congr 1
        have v1 : vp_in (iI ((π * 32 + s : Nat))) 480 := vpk (by omega) (by omega)
        have v2 : vp_in (iI ((π * 32 + t : Nat))) 480 := vpk (by omega) (by omega)
        rw [o1, o2, iI_cl (a := ((π * 32 + s : Nat) : Int)) (by omega) (by omega), iI_cl (a := ((π * 32 + t : Nat) : Int)) (by omega) (by omega), Int.toNat_natCast, Int.toNat_natCast]
        refine ⟨v1, v1, v2, v2, ?_⟩
        have := ih (t + 1) (sA (sA A8 0 0 (π * 32 + s) (gA A8 0 0 (π * 32 + s) ||| ((1 : Int32) <<< (iI (t : Nat) &&& 31)))) 0 0 (π * 32 + t) (gA (sA A8 0 0 (π * 32 + s) (gA A8 0 0 (π * 32 + s) ||| ((1 : Int32) <<< (iI (t : Nat) &&& 31)))) 0 0 (π * 32 + t) ||| ((1 : Int32) <<< (iI (s : Nat) &&& 31)))) (by omega) ((fA.sA (by simp)).sA (by simp)) (fun q u hq hu => by
            rw [gA_sA, if_pos rfl, if_pos rfl, if_neg (by omega), gA_sA, if_pos rfl, if_pos rfl, if_neg (by omega)]; exact oA q u hq hu) (fun u v hu hv => by
            rw [gA_sA, if_pos rfl, if_pos rfl]
            by_cases c1 : u = t
            · rw [if_pos (by omega), gA_sA, if_pos rfl, if_pos rfl, if_neg (by omega), bz_or, bz_1 s (by omega) v hv]
              have := bA t v (by omega) hv
              rw [this, c1]
              by_cases c2 : v = s
              · rw [c2, decide_eq_true rfl, Bool.or_true, ftB_sym, fb, Bool.and_true]
                exact (decide_eq_true (by omega)).symm
              · rw [decide_eq_false c2, Bool.or_false]
                congr 1
                exact decide_eq_decide.mpr (by omega)
            · rw [if_neg (by omega), gA_sA, if_pos rfl, if_pos rfl]
              by_cases c3 : u = s
              · rw [if_pos (by omega), bz_or, bz_1 t (by omega) v hv]
                have := bA s v (by omega) hv
                rw [this, c3]
                by_cases c2 : v = t
                · rw [c2, decide_eq_true rfl, Bool.or_true, fb, Bool.and_true]
                  exact (decide_eq_true (by omega)).symm
                · rw [decide_eq_false c2, Bool.or_false]
                  congr 1
                  exact decide_eq_decide.mpr (by omega)
              · rw [if_neg (by omega), bA u v hu hv]
                congr 1
                exact decide_eq_decide.mpr (by omega))
        rw [st, fb] at this
        rw [show iI ((sumN (fun s => cnt (ftB X Y l (f 4) i r s) s) s + cnt (ftB X Y l (f 4) i r s) t : Nat)) + 1 = iI ((sumN (fun s => cnt (ftB X Y l (f 4) i r s) s) s + (cnt (ftB X Y l (f 4) i r s) t + 1) : Nat)) from iI_add _ 1]
        exact this
  have outer : ∀ (m s : Nat) (A8 : PS), s + m = (if l.length = 0 then 1 else l.length) → 1 ≤ s → Fr [] [] [0] [] P8 A8 → (∀ q u, q ≠ π → u < 32 → gA A8 0 0 (q * 32 + u) = gA P8 0 0 (q * 32 + u)) → (∀ u v, u < 32 → v < 32 → bz (gA A8 0 0 (π * 32 + u)) v = (decide (u ≠ v ∧ u < s ∧ v < s) && ftB X Y l (f 4) i r u v)) → cX2_findFits_83 (0, 0, 0, 0) (d + 1) j kb (iI (π : Nat)) (iI (plen X Y i r : Nat)) (iI (sumN (fun s => cnt (ftB X Y l (f 4) i r s) s) s : Nat)) (iI (s : Nat)) P0 P1 P2 P3 P4 P5 P6 P7 A8 R Q := by
    intro m
    induction m with
    | zero =>
      intro s A8 hs h1 fA oA bA
      refine gX2_findFits_83 ?_
      unfold fX2_findFits_83
      have sle : l.length ≤ s ∧ s ≤ 32 := by split at hs <;> omega
      rw [hB.1.1, iI_le (by omega) (by omega) (by omega) (by omega), iI_cl (a := (π : Nat)) (by omega) (by omega), Int.toNat_natCast]
      refine ⟨fun _ => ⟨vpk hpr (by omega), h _ A8 (fun u v hu hv => ?_) oA (fun q => ?_) (FrO.rf.sA) fA⟩, fun c => absurd (by omega) c⟩
      · rw [hprq, bA u v hu hv]
        congr 1
        refine decide_eq_decide.mpr ?_
        split at hs <;> omega
      · rw [gA_sA, if_pos rfl, if_pos rfl]
        by_cases cq : q = π
        · rw [if_pos cq, if_pos cq]
          unfold fitN
          by_cases c0 : l.length = 0
          · rw [if_pos c0] at hs
            rw [show s = 1 by omega, c0]; rfl
          · rw [if_neg c0] at hs
            rw [show s = l.length by omega]
        · rw [if_neg cq, if_neg cq]
    | succ m ih =>
      intro s A8 hs h1 fA oA bA
      refine gX2_findFits_83 ?_
      unfold fX2_findFits_83
      have sl : s < l.length := by split at hs <;> omega
      rw [hB.1.1, iI_le (by omega) (by omega) (by omega) (by omega), show (32 : Int32) = iI 32 from rfl, iI_le (by omega) (by omega) (by omega) (by omega)]
      refine ⟨fun c => absurd c (by omega), fun _ => ⟨fun c => absurd c (by omega), fun _ => ?_⟩⟩
      have hs' : s + 1 + m = (if l.length = 0 then 1 else l.length) := by rw [← hs]; omega
      exact inner s sl (fun A' f' o' b' => ih (s + 1) A' hs' (by omega) f' o' b') s 0 A8 (by omega) fA oA (fun u v hu hv => by rw [bA u v hu hv]; congr 1; exact decide_eq_decide.mpr (by omega))
  have clr : ∀ (m s : Nat) (A8 : PS), s + m = 32 → Fr [] [] [0] [] P8 A8 → (∀ q u, q ≠ π → u < 32 → gA A8 0 0 (q * 32 + u) = gA P8 0 0 (q * 32 + u)) → (∀ u, u < s → gA A8 0 0 (π * 32 + u) = 0) → cX2_findFits_53 (0, 0, 0, 0) (d + 1) j kb (iI (π : Nat)) (iI (plen X Y i r : Nat)) 0 (iI (s : Nat)) P0 P1 P2 P3 P4 P5 P6 P7 A8 R Q := by
    intro m
    induction m with
    | zero =>
      intro s A8 hs fA oA zA
      refine gX2_findFits_53 ?_
      unfold fX2_findFits_53
      rw [show (32 : Int32) = iI 32 from rfl, iI_le (by omega) (by omega) (by omega) (by omega)]
      refine ⟨fun _ => ?_, fun c => absurd (by omega) c⟩
      have := outer ((if l.length = 0 then 1 else l.length) - 1) 1 A8 (by split <;> omega) (Nat.le_refl _) fA oA (fun u v hu hv => by
        rw [zA u (by omega), bz_0, decide_eq_false (by omega), Bool.false_and])
      exact this
    | succ m ih =>
      intro s A8 hs fA oA zA
      have o1 : iI (π : Nat) * 32 + iI (s : Nat) = iI ((π * 32 + s : Nat)) := by rw [show (32 : Int32) = iI 32 from rfl, iI_mul, iI_add]; congr 1
      refine gX2_findFits_53 ?_
      unfold fX2_findFits_53
      rw [o1, show (32 : Int32) = iI 32 from rfl, iI_le (by omega) (by omega) (by omega) (by omega), iI_cl (a := ((π * 32 + s : Nat) : Int)) (by omega) (by omega), Int.toNat_natCast, show iI (s : Nat) + 1 = iI ((s + 1 : Nat)) from iI_add (s : Nat) 1]
      refine ⟨fun c => absurd c (by omega), fun _ => ⟨vpk (by omega) (by omega), ih (s + 1) _ (by omega) (fA.sA (by simp)) (fun q u hq hu => ?_) (fun u hu => ?_)⟩⟩
      · rw [gA_sA, if_pos rfl, if_pos rfl, if_neg (by omega)]; exact oA q u hq hu
      · rw [gA_sA, if_pos rfl, if_pos rfl]
        by_cases c : u = s
        · rw [if_pos (by omega)]
        · rw [if_neg (by omega)]; exact zA u (by omega)
  exact clr 32 0 P8 (by omega) Fr.rf (fun _ _ _ _ => rfl) (fun u hu => absurd hu (Nat.not_lt_zero u))
