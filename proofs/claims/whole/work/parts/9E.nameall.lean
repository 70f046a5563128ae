/-! ===== the class: a picture with its NAMINGS ===== -/
theorem C_nameAll {d j kb p w : Nat} {y : SY} {z k : Int} {l : List SR} {f : Nat → Int} {x : Int32} {P0 P1 P2 P3 P4 P5 P6 P7 P8 : PS} {R : List PS} {Q : Option AV → List PS → Prop} (hP : PiC j (y.2.1 p) z P3) (hxb : ∀ e, e < 32 → bz x e = (decide (e < nD (y.2.1 p) z) && ptB y z k p e)) (hB : BoC kb l f P2) (hF : FOK f) (hK : LtK p w z (y.2.1 p)) (h : ∀ P3' P8', gI P3' j 10 = x → NcC j (qX y z k f p) (qY y z k f p) l (f 4) (aP y z k p) P3' → FrO j [10, 11, 12] [] [8] [9] P3 P3' → Fr [4, 5] [] [1, 2, 3, 0] [] P8 P8' → Q none (P0 :: P1 :: P2 :: P3' :: P4 :: P5 :: P6 :: P7 :: P8' :: R)) : Tri 27 (d + 10) [vR 8 0 0, vR 3 j 0, vI x, vR 2 kb 0] (P0 :: P1 :: P2 :: P3 :: P4 :: P5 :: P6 :: P7 :: P8 :: R) Q := by
  have A6 : aP y z k p ≤ 6 ∧ aP y z k p ≤ nP y z k p := m6_le (nP y z k p)
  have hX : ∀ i, i < aP y z k p → (0 ≤ qX y z k f p i ∧ qX y z k f p i ≤ 1395) ∧ 0 ≤ qY y z k f p i ∧ qY y z k f p i ≤ 1395 := fun i hi => qX_bd hK hF (by omega)
  have hl := hB.1.2.1
  refine enX2_nameAll ?_
  unfold fX2_nameAll_0
  have q10 : gI (sI (sI (sI P3 j 10 x) j 11 0) j 12 0) j 10 = x := by rw [gI_sI, if_neg (by decide), gI_sI, if_neg (by decide), gI_sI, if_pos rfl, if_pos rfl]
  have q11 : gI (sI (sI (sI P3 j 10 x) j 11 0) j 12 0) j 11 = iI 0 := by rw [gI_sI, if_neg (by decide), gI_sI, if_pos rfl, if_pos rfl]; rfl
  have q12 : gI (sI (sI (sI P3 j 10 x) j 11 0) j 12 0) j 12 = iI 0 := by rw [gI_sI, if_pos rfl, if_pos rfl]; rfl
  have fB3 : FrO j [10, 11, 12] [] [8] [9] P3 (sI (sI (sI P3 j 10 x) j 11 0) j 12 0) := ((FrO.rf.sI).sI).sI
  have hP' : PiC j (y.2.1 p) z (sI (sI (sI P3 j 10 x) j 11 0) j 12 0) := hP
  generalize sI (sI (sI P3 j 10 x) j 11 0) j 12 0 = B3 at *
  refine C_place (w := w) (y := y) (z := z) (k := k) (p := p) (f := f) hP' q10 hxb hB.2.1 (fun B8 hPl fB8 => ?_)
  dsimp only [hx9, rV]
  generalize hXe : qX y z k f p = X at *
  generalize hYe : qY y z k f p = Y at *
  generalize hAe : aP y z k p = A at *
  have plA : ∀ {A8}, Fr [] [] [0] [] B8 A8 → PlC X Y A A8 := fun fr => by
    refine ⟨?_, fun i hi => ?_⟩
    · rw [fr.2.1 4 (by simp)]; exact hPl.1
    · rw [fr.2.2.2.1 1 i (by simp), fr.2.2.2.1 2 i (by simp)]; exact hPl.2 i hi
  have outer : ∀ (m r : Nat) (A3 A8 : PS), m = A - r → 1 ≤ r → r ≤ A + 1 → FrO j [] [] [8] [] B3 A3 → Fr [] [] [0] [] B8 A8 → (∀ r', r' < A → ∀ p', p' < r' → r' < r → FbC X Y l (f 4) p' r' A8 ∧ gA A3 j 8 (prO p' r') = iI (fitN X Y l (f 4) p' r' : Nat)) → cX2_nameAll_24 (0, 0, 0, 0) (d + 9) j kb (iI (r : Nat)) P0 P1 P2 A3 P4 P5 P6 P7 A8 R Q := by
    intro m
    induction m with
    | zero =>
      intro r A3 A8 hm h1 h2 f3 f8 dn
      refine gX2_nameAll_24 ?_
      unfold fX2_nameAll_24
      have e0 : (if iI (l.length : Nat) < iI (A : Nat) then iI (l.length : Nat) else iI (A : Nat)) = iI ((if l.length < A then l.length else A : Nat)) := by
        by_cases c : l.length < A
        · rw [if_pos c, if_pos ((iI_lt (by omega) (by omega) (by omega) (by omega)).mpr (by omega))]
        · rw [if_neg c, if_neg (fun g => c (by have := (iI_lt (by omega) (by omega) (by omega) (by omega)).mp g; omega))]
      rw [(plA f8).1, hB.1.1, e0, iI_le (by omega) (by omega) (by omega) (by omega)]
      refine ⟨fun _ => ?_, fun c => absurd (by omega) c⟩
      have g0 : (if l.length < A then l.length else A) ≤ A := by split <;> omega
      refine C_sizes A6.1 hX hB (plA f8) (fun r' hr p' hp => (dn r' hr p' hp (by omega)).1) (fun r' hr p' hp => (dn r' hr p' hp (by omega)).2) (fun C3 C8 nc c3 c8 => h C3 C8 ?_ nc ?_ ?_) (if l.length < A then l.length else A) A3 A8 g0 ?_ FrO.rf Fr.rf ?_ ?_
      · rw [c3.2.1 10 (by simp), f3.2.1 10 (by simp)]; exact q10
      · exact fB3.tr ((f3.mono (by simp) (by simp) (by simp) (by simp)).tr (c3.mono (by simp) (by simp) (by simp) (by simp)))
      · exact (fB8.mono (by simp) (by simp) (by simp) (by simp)).trs ((f8.mono (by simp) (by simp) (by simp) (by simp)).trs (c8.mono (by simp) (by simp) (by simp) (by simp)))
      · exact (nmF_skip (fun g q1 q2 => nmg_nil hl (by split at q1 <;> omega) q2) A g0 (Nat.le_refl _)).symm
      · rw [f3.2.1 11 (by simp)]; exact q11
      · rw [f3.2.1 12 (by simp)]; exact q12
    | succ m ih =>
      intro r A3 A8 hm h1 h2 f3 f8 dn
      refine gX2_nameAll_24 ?_
      unfold fX2_nameAll_24
      rw [(plA f8).1, iI_le (by omega) (by omega) (by omega) (by omega)]
      refine ⟨fun c => absurd c (by omega), fun _ => ?_⟩
      have inner : ∀ (n i : Nat) (A3 A8 : PS), i + n = r → FrO j [] [] [8] [] B3 A3 → Fr [] [] [0] [] B8 A8 → (∀ r', r' < A → ∀ p', p' < r' → (r' < r ∨ (r' = r ∧ p' < i)) → FbC X Y l (f 4) p' r' A8 ∧ gA A3 j 8 (prO p' r') = iI (fitN X Y l (f 4) p' r' : Nat)) → cX2_nameAll_36 (0, 0, 0, 0) (d + 9) j kb (iI (r : Nat)) (iI (i : Nat)) P0 P1 P2 A3 P4 P5 P6 P7 A8 R Q := by
        intro n
        induction n with
        | zero =>
          intro i A3 A8 hi f3 f8 dn
          refine gX2_nameAll_36 ?_
          unfold fX2_nameAll_36
          rw [iI_le (by omega) (by omega) (by omega) (by omega), show iI (r : Nat) + 1 = iI ((r + 1 : Nat)) from iI_add (r : Nat) 1]
          exact ⟨fun _ => ih (r + 1) A3 A8 (by omega) (by omega) (by omega) f3 f8 (fun r' hr p' hp hrr => dn r' hr p' hp (by omega)), fun c => absurd (by omega) c⟩
        | succ n ih2 =>
          intro i A3 A8 hi f3 f8 dn
          refine gX2_nameAll_36 ?_
          unfold fX2_nameAll_36
          rw [iI_le (by omega) (by omega) (by omega) (by omega), show iI (i : Nat) + 1 = iI ((i + 1 : Nat)) from iI_add (i : Nat) 1]
          refine ⟨fun c => absurd c (by omega), fun _ => C_findFits (d := d + 7) (show i < r by omega) (show r < A by omega) A6.1 hX (plA f8) hB hF (fun C3 C8 fb keep pf c3 c8 => ?_)⟩
          dsimp only [hx9, rV]
          refine ih2 (i + 1) C3 C8 (by omega) (f3.tr c3) (f8.trs c8) (fun r' hr p' hp hrr => ?_)
          by_cases cc : r' = r ∧ p' = i
          · obtain ⟨e1, e2⟩ := cc
            subst e1 e2
            exact ⟨fb, by rw [pf, if_pos rfl]⟩
          · have ne : prO p' r' ≠ prO i r := fun e => by
              have := prO_inj (by omega) hp (by omega) (show i < r by omega) e
              omega
            have old := dn r' hr p' hp (by omega)
            refine ⟨fun s t hs ht => ?_, ?_⟩
            · rw [keep _ s ne hs]; exact old.1 s t hs ht
            · rw [pf, if_neg ne]; exact old.2
      exact inner r 0 A3 A8 (by omega) f3 f8 (fun r' hr p' hp hrr => dn r' hr p' hp (by omega))
  exact outer (A - 1) 1 B3 B8 rfl (Nat.le_refl _) (by omega) FrO.rf Fr.rf (fun r' hr p' hp hrr => by omega)
/-! what a picture keeps, told by the bits of its POINTS alone -/
noncomputable def bX (L : Nat → Int) (z : Int) (f : Nat → Int) (x : Int32) (i : Nat) : Int := (dt L z (nth (bz x) i (nD L z))).1 * f 1
noncomputable def bY (L : Nat → Int) (z : Int) (f : Nat → Int) (x : Int32) (i : Nat) : Int := (dt L z (nth (bz x) i (nD L z))).2.1 * f 1
noncomputable def bA (L : Nat → Int) (z : Int) (x : Int32) : Nat := m6 (cnt (bz x) (nD L z))
/-- the NAMINGS that a picture keeps are those of the POINTS that it keeps -/
def CaC (i : Nat) (L : Nat → Int) (z : Int) (l : List SR) (f : Nat → Int) (P : PS) : Prop := gI P i 10 = -1 ∨ NcC i (bX L z f (gI P i 10)) (bY L z f (gI P i 10)) l (f 4) (bA L z (gI P i 10)) P
theorem nth_cg {p q : Nat → Bool} {i : Nat} : ∀ n, (∀ e, e < n → p e = q e) → nth p i n = nth q i n
  | 0, _ => rfl
  | n + 1, h => by
    unfold nth
    rw [h n (by omega), cnt_congr n (fun e he => h e (by omega)), nth_cg n (fun e he => h e (by omega))]
theorem bX_q {y : SY} {z k : Int} {f : Nat → Int} {p : Nat} {x : Int32} (hxb : ∀ e, e < 32 → bz x e = (decide (e < nD (y.2.1 p) z) && ptB y z k p e)) : bX (y.2.1 p) z f x = qX y z k f p ∧ bY (y.2.1 p) z f x = qY y z k f p ∧ bA (y.2.1 p) z x = aP y z k p := by
  have h12 := (nD_le (y.2.1 p) z).1
  have e0 : ∀ e, e < nD (y.2.1 p) z → bz x e = ptB y z k p e := fun e he => by rw [hxb e (by omega), decide_eq_true he, Bool.true_and]
  refine ⟨funext fun i => ?_, funext fun i => ?_, ?_⟩
  · unfold bX qX ptD; rw [nth_cg _ e0]
  · unfold bY qY ptD; rw [nth_cg _ e0]
  · unfold bA aP nP; rw [cnt_congr _ e0]
