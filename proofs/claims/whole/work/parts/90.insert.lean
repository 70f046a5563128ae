/-! ===== the class: a DOT is put among the others ===== -/
theorem bz_shl1 (x : Int32) {i : Nat} (hi : i < 32) : bz (x <<< ((1 : Int32) &&& 31)) i = (decide (0 < i) && bz x (i - 1)) := by
  unfold bz
  rw [pk_shl x ((1 : Int32) &&& 31) 1 (by decide), Nat.testBit_mod_two_pow, decide_eq_true hi, Bool.true_and, Nat.pow_one, Nat.mul_comm]
  cases i with
  | zero => rw [Nat.testBit_zero]; simp
  | succ i => rw [Nat.testBit_succ, Nat.mul_div_cancel_left _ (by omega)]; simp
theorem sm_ins {x y : Int32} {p e : Nat} (hp : p ≤ 12) (he : e < 32) : bz ((((x &&& ((((1 : Int32) <<< ((iI (p : Nat)) &&& 31)) - 1) ^^^ (-1))) <<< ((1 : Int32) &&& 31)) ||| (x &&& (((1 : Int32) <<< ((iI (p : Nat)) &&& 31)) - 1))) ||| y) e = ((if e < p then bz x e else if e = p then false else bz x (e - 1)) || bz y e) := by
  have h2 : 2 ^ p ≤ 2 ^ 12 := Nat.pow_le_pow_right (by omega) hp
  have hpos : 0 < 2 ^ p := Nat.pow_pos (by omega)
  have e1 : ((1 : Int32) <<< ((iI (p : Nat)) &&& 31)) - 1 = iI ((2 ^ p - 1 : Nat)) := by
    rw [one_sl _ (by omega), show (1 : Int32) = iI 1 from rfl, iI_sub]; refine congrArg iI ?_; omega
  have bt : ∀ i, bz (iI ((2 ^ p - 1 : Nat))) i = decide (i < p) := fun i => by rw [bz_nat _ (by omega), Nat.testBit_two_pow_sub_one]
  rw [e1, bz_or, bz_or, bz_shl1 _ he, bz_and, bz_and, bt, bz_not _ (show e - 1 < 32 by omega), bt]
  by_cases c : e < p
  · rw [if_pos c]; simp [c, show e - 1 < p by omega]
  · rw [if_neg c]
    by_cases c2 : e = p
    · rw [if_pos c2]
      by_cases c3 : 0 < e
      · simp [c, show e - 1 < p by omega]
      · simp [c, show ¬ 0 < e from c3]
    · rw [if_neg c2]; simp [c, show ¬ e - 1 < p by omega, show 0 < e by omega]
def AtC (j e : Nat) (t : DT) (P : PS) : Prop := gA P j 0 e = iI t.1 ∧ gA P j 1 e = iI t.2.1 ∧ gA P j 2 e = iI t.2.2.1 ∧ gA P j 3 e = iI t.2.2.2.1
def m12 (k : Nat) : Nat := if k ≤ 12 then k else 12
/-- k DOTS have come -/
def PkC (j : Nat) (L : Nat → Int) (z : Int) (k : Nat) (P : PS) : Prop := gI P j 5 = iI (m12 k : Nat) ∧ (∀ i, i < m12 k → AtC j i (dq L z (ordD L z k i)) P) ∧ (∀ i, i < m12 k → bz (gI P j 6) i = (dq L z (ordD L z k i)).2.2.2.2) ∧ gI P j 7 = iI 0 ∧ ∀ r, r < 16 → gA P j 4 r = iI 0
theorem C_isAhead {d j e : Nat} {s t : DT} {x y u v : Int32} {P0 P1 P2 P3 : PS} {R : List PS} {Q : Option AV → List PS → Prop} (hx : x = iI s.1) (hy : y = iI s.2.1) (hu : u = iI s.2.2.1) (hv : v = iI (e : Nat)) (he : e < 12) (ht : AtC j e t P3) (h1 : 0 ≤ s.1 ∧ s.1 ≤ 155) (h2 : 0 ≤ s.2.1 ∧ s.2.1 ≤ 155) (h3 : 0 ≤ s.2.2.1 ∧ s.2.2.1 ≤ 2304) (g1 : 0 ≤ t.1 ∧ t.1 ≤ 155) (g2 : 0 ≤ t.2.1 ∧ t.2.1 ≤ 155) (g3 : 0 ≤ t.2.2.1 ∧ t.2.2.1 ≤ 2304) (h : Q (some (vI (oI (decide (keyD t < keyD s))))) (P0 :: P1 :: P2 :: P3 :: R)) : Tri 38 d [vR 3 j 0, vI x, vI y, vI u, vI v] (P0 :: P1 :: P2 :: P3 :: R) Q := by
  subst hx hy hu hv
  have k := key_lt h1 h2 g1 g2
  refine enX3_isAhead ?_
  unfold fX3_isAhead_0
  have ve : vp_in (iI (e : Nat)) 12 := vpk he (by omega)
  rw [iI_cl (a := (e : Nat)) (by omega) (by omega), Int.toNat_natCast, ht.1, ht.2.1, ht.2.2.1]
  simp (disch := omega) only [iI_eq, iI_le]
  have no : ¬ keyD t < keyD s → Q (some (vI (oI false))) (P0 :: P1 :: P2 :: P3 :: R) := fun q => by rw [decide_eq_false q] at h; exact h
  have yes : keyD t < keyD s → Q (some (vI (oI true))) (P0 :: P1 :: P2 :: P3 :: R) := fun q => by rw [decide_eq_true q] at h; exact h
  refine ⟨ve, fun c => ⟨ve, fun c1 => ⟨ve, fun c2 => ⟨Or.inl trivial, no (by omega)⟩, fun c2 => ⟨Or.inr trivial, yes (by omega)⟩⟩, fun c1 => ⟨ve, fun c2 => ⟨Or.inl trivial, no (by omega)⟩, fun c2 => ⟨Or.inr trivial, yes (by omega)⟩⟩⟩, fun c => ⟨ve, fun c2 => ⟨Or.inl trivial, no (by omega)⟩, fun c2 => ⟨Or.inr trivial, yes (by omega)⟩⟩⟩
theorem AtC.set {j e : Nat} {t : DT} {P : PS} : AtC j e t (sA (sA (sA (sA P j 0 e (iI t.1)) j 1 e (iI t.2.1)) j 2 e (iI t.2.2.1)) j 3 e (iI t.2.2.2.1)) := by
  unfold AtC; simp only [gI_sI, gI_sL, gI_sA, gI_sB, gI_sO, gI_sR, gI_sW, gL_sI, gL_sL, gL_sA, gL_sB, gL_sO, gL_sR, gL_sW, gA_sI, gA_sL, gA_sA, gA_sB, gA_sO, gA_sR, gB_sI, gB_sL, gB_sA, gB_sB, gB_sO, gB_sR, gB_sW, gO_sI, gO_sL, gO_sA, gO_sB, gO_sO, gO_sR, gO_sW, gR_sI, gR_sL, gR_sA, gR_sB, gR_sO, gR_sR, gR_sW, gN_sI, gN_sL, gN_sA, gN_sB, gN_sO, gN_sR, gN_sW, if_true, if_false, Nat.reduceEqDiff, reduceIte]; exact ⟨trivial, trivial, trivial, trivial⟩
theorem AtC.oth {j e f : Nat} {t : DT} {P : PS} {a b c d : Int32} (h : AtC j e t P) (hne : e ≠ f) : AtC j e t (sA (sA (sA (sA P j 0 f a) j 1 f b) j 2 f c) j 3 f d) := by
  unfold AtC at *; simp only [gI_sI, gI_sL, gI_sA, gI_sB, gI_sO, gI_sR, gI_sW, gL_sI, gL_sL, gL_sA, gL_sB, gL_sO, gL_sR, gL_sW, gA_sI, gA_sL, gA_sA, gA_sB, gA_sO, gA_sR, gB_sI, gB_sL, gB_sA, gB_sB, gB_sO, gB_sR, gB_sW, gO_sI, gO_sL, gO_sA, gO_sB, gO_sO, gO_sR, gO_sW, gR_sI, gR_sL, gR_sA, gR_sB, gR_sO, gR_sR, gR_sW, gN_sI, gN_sL, gN_sA, gN_sB, gN_sO, gN_sR, gN_sW, if_true, if_false, Nat.reduceEqDiff, reduceIte, if_neg hne]; exact h
theorem C_insert {d j k : Nat} {L : Nat → Int} {z : Int} {x y u v w : Int32} {P0 P1 P2 P3 : PS} {R : List PS} {Q : Option AV → List PS → Prop} (hL : LOK L) (hz : 0 ≤ z) (hk : k < nDt L z) (hx : x = iI (dq L z k).1) (hy : y = iI (dq L z k).2.1) (hu : u = iI (dq L z k).2.2.1) (hv : v = iI (dq L z k).2.2.2.1) (hw : w = oI (dq L z k).2.2.2.2) (hP : PkC j L z k P3) (h : ∀ P', PkC j L z (k + 1) P' → FrO j [5, 6] [] [0, 1, 2, 3] [] P3 P' → Q none (P0 :: P1 :: P2 :: P' :: R)) : Tri 37 (d + 1) [vR 3 j 0, vI x, vI y, vI u, vI v, vI w] (P0 :: P1 :: P2 :: P3 :: R) Q := by
  subst hx hy hu hv hw
  obtain ⟨g1, g2, g3, g4, g5⟩ := hP
  have bk := dq_ok hL hz hk
  have m_le : m12 k ≤ 12 ∧ m12 k ≤ k := by unfold m12; split <;> omega
  have m_k : m12 k = k ∨ m12 k = 12 := by unfold m12; split <;> omega
  have m_s : m12 (k + 1) = if 12 < m12 k + 1 then 12 else m12 k + 1 := by unfold m12; split <;> split <;> split <;> omega
  obtain ⟨p, p1, p2, p3, p4⟩ := shK_at (κ := fun d => keyD (dq L z d)) (s := k) k (ordK (fun d => keyD (dq L z d)) k) (ordK_so (fun d => keyD (dq L z d)) k)
  have oin : ∀ i, i < k → ordD L z k i < k := fun i hi => ordK_in _ k i hi
  have bo : ∀ i, i < k → _ := fun i hi => dq_ok hL hz (show ordD L z k i < nDt L z by have := oin i hi; omega)
  have o1 : ∀ i, i ≤ k → ordD L z (k + 1) i = if i < p then ordD L z k i else if i = p then k else ordD L z k (i - 1) := p4
  refine enX3_insert ?_
  unfold fX3_insert_0
  have e0 : (if (12 : Int32) < gI P3 j 5 then (12 : Int32) else gI P3 j 5) = iI (m12 k : Nat) := by
    rw [g1]
    simp (disch := omega) only [show (12 : Int32) = iI 12 from rfl, iI_lt]
    rw [if_neg (by omega)]
  rw [e0]
  -- the place is found
  have place : p < 12 → cX3_insert_67 (0, 0, 0, 0) d j (iI (dq L z k).1) (iI (dq L z k).2.1) (iI (dq L z k).2.2.1) (iI (dq L z k).2.2.2.1) (oI (dq L z k).2.2.2.2) (iI (p : Nat)) ((gI (sI P3 j 5 (if (12 : Int32) < (gI P3 j 5) + 1 then 12 else (gI P3 j 5) + 1)) j 5) - 1) P0 P1 P2 (sI P3 j 5 (if (12 : Int32) < (gI P3 j 5) + 1 then 12 else (gI P3 j 5) + 1)) R Q := by
    intro hp
    have e5 : (if (12 : Int32) < (gI P3 j 5) + 1 then (12 : Int32) else (gI P3 j 5) + 1) = iI (m12 (k + 1) : Nat) := by
      rw [g1, show iI (m12 k : Nat) + 1 = iI ((m12 k + 1 : Nat)) from iI_add _ 1]
      simp (disch := omega) only [show (12 : Int32) = iI 12 from rfl, iI_lt]
      rw [m_s]
      by_cases c : 12 < m12 k + 1
      · rw [if_pos (by omega), if_pos c]; rfl
      · rw [if_neg (by omega), if_neg c]
    rw [e5, gI_sI, if_pos rfl, if_pos rfl]
    have m1 : 1 ≤ m12 (k + 1) ∧ m12 (k + 1) ≤ 12 ∧ m12 (k + 1) ≤ m12 k + 1 ∧ p < m12 (k + 1) ∧ m12 (k + 1) ≤ k + 1 := by
      unfold m12; split <;> split <;> omega
    rw [show iI (m12 (k + 1) : Nat) - 1 = iI ((m12 (k + 1) - 1 : Nat)) by rw [show (1 : Int32) = iI 1 from rfl, iI_sub]; refine congrArg iI ?_; omega]
    have vp : vp_in (iI (p : Nat)) 12 := vpk hp (by omega)
    have sh : ∀ (n i : Nat) (A : PS), p + n = i → i < m12 (k + 1) → FrO j [5, 6] [] [0, 1, 2, 3] [] P3 A → gI A j 5 = iI (m12 (k + 1) : Nat) → gI A j 6 = gI P3 j 6 → (∀ e, e ≤ i → e < m12 k → AtC j e (dq L z (ordD L z k e)) A) → (∀ e, i < e → e < m12 (k + 1) → AtC j e (dq L z (ordD L z k (e - 1))) A) → cX3_insert_67 (0, 0, 0, 0) d j (iI (dq L z k).1) (iI (dq L z k).2.1) (iI (dq L z k).2.2.1) (iI (dq L z k).2.2.2.1) (oI (dq L z k).2.2.2.2) (iI (p : Nat)) (iI (i : Nat)) P0 P1 P2 A R Q := by
      intro n
      induction n with
      | zero =>
        intro i A hi him fA d5 d6 lo hi'
        have ei : i = p := by omega
        subst ei
        refine gX3_insert_67 ?_
        unfold fX3_insert_67
        rw [iI_le (by omega) (by omega) (by omega) (by omega), iI_cl (a := (i : Nat)) (by omega) (by omega), Int.toNat_natCast, d6, oI_z]
        have fin : ∀ yy : Int32, (∀ e, e < 12 → bz yy e = (decide (e = i) && (dq L z k).2.2.2.2)) → Q none (P0 :: P1 :: P2 :: (sI (sA (sA (sA (sA A j 0 i (iI (dq L z k).1)) j 1 i (iI (dq L z k).2.1)) j 2 i (iI (dq L z k).2.2.1)) j 3 i (iI (dq L z k).2.2.2.1)) j 6 (((((gI P3 j 6) &&& (((1 <<< (iI (i : Nat) &&& 31)) - 1) ^^^ -1)) <<< (1 &&& 31)) ||| ((gI P3 j 6) &&& ((1 <<< (iI (i : Nat) &&& 31)) - 1))) ||| yy)) :: R) := by
          intro yy hyy
          refine h _ ⟨d5, fun e he => ?_, fun e he => ?_, ?_, fun r hr => ?_⟩ (fA.sA.sA.sA.sA.sI)
          · rw [o1 e (by omega)]
            by_cases c1 : e < i
            · rw [if_pos c1]
              have := (lo e (by omega) (by omega)).oth (f := i) (a := iI (dq L z k).1) (b := iI (dq L z k).2.1) (c := iI (dq L z k).2.2.1) (d := iI (dq L z k).2.2.2.1) (by omega)
              exact this
            · rw [if_neg c1]
              by_cases c2 : e = i
              · rw [if_pos c2, c2]; exact AtC.set (t := dq L z k)
              · rw [if_neg c2]
                have := (hi' e (by omega) he).oth (f := i) (a := iI (dq L z k).1) (b := iI (dq L z k).2.1) (c := iI (dq L z k).2.2.1) (d := iI (dq L z k).2.2.2.1) c2
                exact this
          · rw [gI_sI, if_pos rfl, if_pos rfl, sm_ins (by omega) (by omega), hyy e (by omega), o1 e (by omega)]
            by_cases c1 : e < i
            · rw [if_pos c1, if_pos c1, g3 e (by omega), decide_eq_false (by omega), Bool.false_and, Bool.or_false]
            · rw [if_neg c1, if_neg c1]
              by_cases c2 : e = i
              · rw [if_pos c2, if_pos c2, decide_eq_true c2, Bool.true_and, Bool.false_or]
              · rw [if_neg c2, if_neg c2, g3 (e - 1) (by omega), decide_eq_false c2, Bool.false_and, Bool.or_false]
          · show gI A j 7 = _
            rw [fA.2.1 _ (by simp)]; exact g4
          · show gA A j 4 r = _
            rw [fA.2.2.2.1 _ _ (by simp)]; exact g5 r hr
        refine ⟨fun _ => ⟨vp, vp, vp, vp, fun c => fin 0 (fun e he => by rw [bz_0, c, Bool.and_false]), fun c => fin _ (fun e he => ?_)⟩, fun c => absurd (by omega) c⟩
        rw [bz_1 i (by omega) e (by omega), show (dq L z k).2.2.2.2 = true by simpa using c, Bool.and_true]
      | succ n ih =>
        intro i A hi him fA d5 d6 lo hi'
        have vi : vp_in (iI (i : Nat)) 12 := vpk (by omega) (by omega)
        have vi1 : vp_in (iI ((i - 1 : Nat))) 12 := vpk (by omega) (by omega)
        have ei : iI (i : Nat) - 1 = iI ((i - 1 : Nat)) := by rw [show (1 : Int32) = iI 1 from rfl, iI_sub]; refine congrArg iI ?_; omega
        have ei2 : iI (i : Nat) + -1 = iI ((i - 1 : Nat)) := by rw [show (-1 : Int32) = iI (-1) from rfl, iI_add]; refine congrArg iI ?_; omega
        have l1 := lo (i - 1) (by omega) (by omega)
        refine gX3_insert_67 ?_
        unfold fX3_insert_67
        rw [ei, ei2, iI_le (by omega) (by omega) (by omega) (by omega), iI_cl (a := (i : Nat)) (by omega) (by omega), iI_cl (a := ((i - 1 : Nat) : Int)) (by omega) (by omega), Int.toNat_natCast, Int.toNat_natCast, l1.1, l1.2.1, l1.2.2.1, l1.2.2.2]
        refine ⟨fun c => absurd c (by omega), fun _ => ⟨vi1, vi, vi1, vi, vi1, vi, vi1, vi, ?_⟩⟩
        refine ih (i - 1) _ (by omega) (by omega) fA.sA.sA.sA.sA d5 d6 (fun e he he' => (lo e (by omega) he').oth (by omega)) (fun e he he' => ?_)
        by_cases c : e = i
        · rw [c]; exact AtC.set (t := dq L z (ordD L z k (i - 1)))
        · exact (hi' e (by omega) he').oth c
    refine sh (m12 (k + 1) - 1 - p) (m12 (k + 1) - 1) _ (by omega) (by omega) (FrO.rf.sI) (by rw [gI_sI, if_pos rfl, if_pos rfl]) (by rw [gI_sI, if_neg (by decide)]) (fun e _ he => g2 e he) (fun e he he' => by omega)
  have stop : ¬ p < 12 → Q none (P0 :: P1 :: P2 :: P3 :: R) := fun hp => by
    have em : m12 k = 12 ∧ m12 (k + 1) = 12 := by unfold m12; split <;> split <;> omega
    refine h P3 ⟨by rw [g1, em.1, em.2], fun i hi => ?_, fun i hi => ?_, g4, g5⟩ FrO.rf
    · rw [o1 i (by omega), if_pos (by omega)]; exact g2 i (by omega)
    · rw [o1 i (by omega), if_pos (by omega)]; exact g3 i (by omega)
  have walk : ∀ a : Nat, a ≤ m12 k → (p ≤ a ∨ a = 12) → cX3_insert_11 (0, 0, 0, 0) d j (iI (dq L z k).1) (iI (dq L z k).2.1) (iI (dq L z k).2.2.1) (iI (dq L z k).2.2.2.1) (oI (dq L z k).2.2.2.2) (iI (a : Nat)) P0 P1 P2 P3 R Q := by
    intro a
    induction a with
    | zero =>
      intro ha hpa
      refine gX3_insert_11 ?_
      unfold fX3_insert_11
      have ep : p = 0 := by omega
      have := place (by omega)
      rw [ep] at this
      refine ⟨fun _ => ⟨fun _ => this, fun c => absurd (by decide) c⟩, fun c => absurd (by decide) c⟩
    | succ a ih =>
      intro ha hpa
      have ea : iI ((a + 1 : Nat)) - 1 = iI (a : Nat) := by rw [show (1 : Int32) = iI 1 from rfl, iI_sub]; refine congrArg iI ?_; omega
      have ea2 : iI ((a + 1 : Nat)) + -1 = iI (a : Nat) := by rw [show (-1 : Int32) = iI (-1) from rfl, iI_add]; refine congrArg iI ?_; omega
      have ba := bo a (by omega)
      refine gX3_insert_11 ?_
      unfold fX3_insert_11
      have hle0 : ¬ iI ((a + 1 : Nat)) ≤ 0 := by rw [show (0 : Int32) = iI 0 from rfl, iI_le (by omega) (by omega) (by omega) (by omega)]; omega
      have hlt : iI ((a + 1 : Nat)) < 12 ↔ a + 1 < 12 := by rw [show (12 : Int32) = iI 12 from rfl, iI_lt (by omega) (by omega) (by omega) (by omega)]; omega
      refine ⟨fun c => absurd c hle0, fun _ => ?_⟩
      refine C_isAhead (s := dq L z k) (t := dq L z (ordD L z k a)) rfl rfl rfl ea (by omega) (g2 a (by omega)) bk.1 bk.2.1 bk.2.2 ba.1 ba.2.1 ba.2.2 ?_
      dsimp only [hx4, rI]
      rw [oI_dec, hlt, ea2]
      have key : keyD (dq L z (ordD L z k a)) < keyD (dq L z k) ↔ p ≤ a := by
        constructor
        · intro q
          by_cases c : p ≤ a
          · exact c
          · have q2 : keyD (dq L z k) ≤ keyD (dq L z (ordD L z k a)) := p2 a (by omega); omega
        · intro q; exact p3 a q (by omega)
      rw [key]
      refine ⟨fun c => ⟨fun c1 => ?_, fun c1 => stop (by omega)⟩, fun c => ih (by omega) (Or.inl (by omega))⟩
      have ep : p = a + 1 := by omega
      have := place (by omega)
      rw [ep] at this
      exact this
  exact walk (m12 k) (Nat.le_refl _) (by omega)
