/-! ===== pictures that count, SPECKS, POINTS ===== -/
/-- a story: how many pictures, their lights, when told, when untold, the pixels that are no specks -/
abbrev SY : Type := Nat × (Nat → Nat → Int) × (Nat → Int) × (Nat → Int) × (Nat → Nat → Bool)
def ctB (y : SY) (q : Nat) (k : Int) : Bool := decide (q < y.1 ∧ y.2.2.1 q ≤ k ∧ (y.2.2.2.1 q < 0 ∨ k < y.2.2.2.1 q))
def pxl (t : DT) : Nat := (16 * (t.2.1 / 10) + t.1 / 10).toNat
noncomputable def hrB (L : Nat → Int) (z : Int) (o n : Nat) : Bool := decide (0 < cnt (fun d => decide (pxl (dt L z d) = o)) n)
def mny (y : SY) (k : Int) (n : Nat) : Nat := cnt (fun q => ctB y q k) n
noncomputable def sen (y : SY) (z k : Int) (o n : Nat) : Nat := cnt (fun q => ctB y q k && hrB (y.2.1 q) z o (nD (y.2.1 q) z)) n
noncomputable def spk (y : SY) (z k : Int) (o : Nat) : Bool := decide (3 ≤ mny y k y.1 ∧ sen y z k o y.1 = mny y k y.1 ∧ y.2.2.2.2 (o % 16) (o / 16) = false)
noncomputable def knd (y : SY) (z k : Int) (p d : Nat) : Int := if (dt (y.2.1 p) z d).2.2.2.2 = true then 1 else if spk y z k (pxl (dt (y.2.1 p) z d)) = true then 2 else 0
noncomputable def ptB (y : SY) (z k : Int) (p d : Nat) : Bool := decide (knd y z k p d = 0)
/-- how many POINTS -/
noncomputable def nP (y : SY) (z k : Int) (p : Nat) : Nat := cnt (ptB y z k p) (nD (y.2.1 p) z)
/-- the i-th POINT's dot -/
noncomputable def ptD (y : SY) (z k : Int) (p i : Nat) : Nat := nth (ptB y z k p) i (nD (y.2.1 p) z)
/-- a story in the Model -/
def StM (y : SY) (w : Nat) (z t : Int) (P : PS) : Prop := gI P 0 28 = iI (y.1 : Nat) ∧ y.1 ≤ 12 ∧ gI P 0 29 = iI t ∧ (0 ≤ t ∧ t ≤ 100000) ∧ FpM y.2.2.2.2 P ∧ ∀ q, q < y.1 → PcM q w z (y.2.1 q) P ∧ LtK q w z (y.2.1 q) ∧ gA P 0 25 q = iI (y.2.2.1 q) ∧ gA P 0 26 q = iI (y.2.2.2.1 q) ∧ (0 ≤ y.2.2.1 q ∧ y.2.2.1 q ≤ 100000) ∧ -1 ≤ y.2.2.2.1 q ∧ y.2.2.2.1 q ≤ 100000
theorem StM.fr {y : SY} {w : Nat} {z t : Int} {P P' : PS} {is ls as bs : List Nat} (h : StM y w z t P) (hf : Fr is ls as bs P P') (h1 : 28 ∉ is) (h2 : 29 ∉ is) (h3 : 27 ∉ as) (h4 : 12 ∉ as) (h5 : 23 ∉ as) (h6 : 25 ∉ as) (h7 : 26 ∉ as) : StM y w z t P' :=
  ⟨by rw [hf.2.1 _ h1]; exact h.1, h.2.1, by rw [hf.2.1 _ h2]; exact h.2.2.1, h.2.2.2.1, fun c r hc hr => by rw [hf.2.2.2.1 _ _ h3]; exact h.2.2.2.2.1 c r hc hr, fun q hq => by
    obtain ⟨g1, g2, g3, g4, g5⟩ := h.2.2.2.2.2 q hq
    exact ⟨g1.fr hf h4 h5, g2, by rw [hf.2.2.2.1 _ _ h6]; exact g3, by rw [hf.2.2.2.1 _ _ h7]; exact g4, g5⟩⟩
def cntS (y : SY) (a k : Int) : Bool := decide (0 ≤ a) && ctB y a.toNat k
theorem M_counts {d w : Nat} {y : SY} {z t a k : Int} {x v : Int32} {P : PS} {R : List PS} {Q : Option AV → List PS → Prop} (hx : x = iI a) (hv : v = iI k) (ha : -2147483648 ≤ a ∧ a < 2147483648) (hk : -2147483648 ≤ k ∧ k < 2147483648) (hS : StM y w z t P) (h : Q (some (vI (oI (cntS y a k)))) (P :: R)) : Tri 198 d [vR 0 0 0, vI x, vI v] (P :: R) Q := by
  subst hx hv
  have hc := hS.2.1
  refine enX12_counts ?_
  unfold fX12_counts_0
  have no : ¬ (0 ≤ a ∧ a.toNat < y.1 ∧ y.2.2.1 a.toNat ≤ k ∧ (y.2.2.2.1 a.toNat < 0 ∨ k < y.2.2.2.1 a.toNat)) → Q (some (vI (oI false))) (P :: R) := fun q => by
    have e : cntS y a k = false := by
      unfold cntS ctB
      by_cases c : 0 ≤ a
      · rw [decide_eq_true c, Bool.true_and]; exact decide_eq_false (fun g => q ⟨c, g⟩)
      · rw [decide_eq_false c, Bool.false_and]
    rw [e] at h; exact h
  have yes : (0 ≤ a ∧ a.toNat < y.1 ∧ y.2.2.1 a.toNat ≤ k ∧ (y.2.2.2.1 a.toNat < 0 ∨ k < y.2.2.2.1 a.toNat)) → Q (some (vI (oI true))) (P :: R) := fun q => by
    have e : cntS y a k = true := by unfold cntS ctB; rw [decide_eq_true q.1, Bool.true_and]; exact decide_eq_true q.2
    rw [e] at h; exact h
  rw [hS.1, show (0 : Int32) = iI 0 from rfl, iI_lt (by omega) (by omega) (by omega) (by omega), iI_le (by omega) (by omega) (by omega) (by omega)]
  refine ⟨fun c => ⟨Or.inl rfl, no (by omega)⟩, fun c => ⟨fun c1 => ⟨Or.inl rfl, no (by omega)⟩, fun c1 => ?_⟩⟩
  obtain ⟨-, -, g3, g4, g5, g6⟩ := hS.2.2.2.2.2 a.toNat (by omega)
  have va : vp_in (iI a) 12 := by rw [iI_in (by omega) (by omega)]; omega
  rw [iI_cl (by omega) (by omega), g3, g4, iI_lt (by omega) (by omega) (by omega) (by omega), iI_lt (by omega) (by omega) (by omega) (by omega), iI_le (by omega) (by omega) (by omega) (by omega)]
  exact ⟨va, fun c2 => ⟨Or.inl rfl, no (by omega)⟩, fun c2 => ⟨va, fun c3 => ⟨Or.inr rfl, yes (by omega)⟩, fun c3 => ⟨va, fun c4 => ⟨Or.inl rfl, no (by omega)⟩, fun c4 => ⟨Or.inr rfl, yes (by omega)⟩⟩⟩⟩
theorem dt_ok {L : Nat → Int} {z : Int} (hL : LOK L) (hz : 0 ≤ z) {i : Nat} (hi : i < nD L z) : (5 ≤ (dt L z i).1 ∧ (dt L z i).1 ≤ 155) ∧ (5 ≤ (dt L z i).2.1 ∧ (dt L z i).2.1 ≤ 155) ∧ (0 < (dt L z i).2.2.1 ∧ (dt L z i).2.2.1 ≤ 2304) ∧ 0 ≤ (dt L z i).2.2.2.1 ∧ (dt L z i).2.2.2.1 ≤ 256 := by
  have h := ordK_in (fun d => keyD (dq L z d)) (nDt L z) i (by have := (nD_le L z).2; omega)
  exact mkD_bd hL (dq_bd hL hz h)
theorem pxl_lt {t : DT} (h1 : 0 ≤ t.1 ∧ t.1 ≤ 155) (h2 : 0 ≤ t.2.1 ∧ t.2.1 ≤ 155) : pxl t < 256 ∧ ((pxl t : Nat) : Int) = 16 * (t.2.1 / 10) + t.1 / 10 := by unfold pxl; omega
/-- the i-th DOT, by way of order -/
theorem DsM.at {L : Nat → Int} {z : Int} {P : PS} (h : DsM L z P) {i : Nat} (hi : i < nD L z) : ∃ o, o < 140 ∧ gA P 0 35 i = iI (o : Nat) ∧ DtM o (dt L z i) P := by
  have h1 := (nD_le L z).2
  have h2 := nDt_le L z
  have h3 := ordK_in (fun d => keyD (dq L z d)) (nDt L z) i (by omega)
  exact ⟨ordD L z (nDt L z) i, by unfold ordD; omega, h.2.2 i (by omega), h.2.1 _ h3⟩
theorem M_pixelOf {d i : Nat} {L : Nat → Int} {z : Int} {x : Int32} {P : PS} {R : List PS} {Q : Option AV → List PS → Prop} (hx : x = iI (i : Nat)) (hD : DsM L z P) (hL : LOK L) (hz : 0 ≤ z) (hi : i < nD L z) (h : Q (some (vI (iI (pxl (dt L z i) : Nat)))) (P :: R)) : Tri 206 d [vR 0 0 0, vI x] (P :: R) Q := by
  subst hx
  have h12 := (nD_le L z).1
  obtain ⟨o, ho, e1, e2⟩ := hD.at hi
  have b := dt_ok hL hz hi
  have pb := pxl_lt (t := dt L z i) (by omega) (by omega)
  refine enX12_pixelOf ?_
  unfold fX12_pixelOf_0
  have vi : vp_in (iI (i : Nat)) 140 := vpk (by omega) (by omega)
  have vo : vp_in (iI (o : Nat)) 140 := vpk ho (by omega)
  rw [iI_cl (a := (i : Nat)) (by omega) (by omega), Int.toNat_natCast, e1, iI_cl (a := (o : Nat)) (by omega) (by omega), Int.toNat_natCast, e2.1, e2.2.1, show (10 : Int32) = iI 10 from rfl, iI_div (by omega) (by omega) (by omega) (by omega), iI_div (by omega) (by omega) (by omega) (by omega), show (16 : Int32) = iI 16 from rfl, iI_mul, iI_add, ← pb.2]
  exact ⟨vi, vo, by decide, vi, vo, by decide, h⟩
abbrev laI : List Nat := [38, 39, 43]
abbrev laA : List Nat := [30, 31, 32, 33, 37, 36, 35, 40, 41, 34, 42]
/-- what was seen of the picture p, as known at k -/
def LaM (y : SY) (z k : Int) (p : Nat) (P : PS) : Prop := DsM (y.2.1 p) z P ∧ (∀ e, e < nD (y.2.1 p) z → gA P 0 34 e = iI (knd y z k p e)) ∧ gI P 0 43 = iI (nP y z k p : Nat) ∧ ∀ i, i < nP y z k p → gA P 0 42 i = iI (ptD y z k p i : Nat)
theorem M_la177 {d p w : Nat} {y : SY} {z t k : Int} {PB : PS} {R : List PS} {Q : Option AV → List PS → Prop} (hS : StM y w z t PB) (hp : p < y.1) (hD : DsM (y.2.1 p) z PB) (hs : ∀ o, o < 256 → gA PB 0 40 o = iI (sen y z k o y.1 : Nat))
    (h : ∀ P, LaM y z k p P → Fr [43] [] [34, 42] [] PB P → Q none (P :: R)) : ∀ (m e : Nat) (P : PS), e + m = nD (y.2.1 p) z → Fr [43] [] [34, 42] [] PB P → gI P 0 43 = iI (cnt (ptB y z k p) e : Nat) → (∀ q, q < e → gA P 0 34 q = iI (knd y z k p q)) → (∀ i, i < cnt (ptB y z k p) e → gA P 0 42 i = iI (nth (ptB y z k p) i e : Nat)) → cX12_lookAt_177 (0, 0, 0, 0) (d + 2) (iI (mny y k y.1 : Nat)) (iI (e : Nat)) P R Q := by
  have hc := hS.2.1
  have hK := (hS.2.2.2.2.2 p hp).2.1
  have h12 := (nD_le (y.2.1 p) z).1
  have hm : mny y k y.1 ≤ 12 := Nat.le_trans (cnt_le _ _) hc
  intro m
  induction m with
  | zero =>
    intro e P he fP gP kP pP
    have dm : gI P 0 39 = iI (nD (y.2.1 p) z : Nat) := by rw [fP.2.1 _ (by simp)]; exact hD.1
    refine gX12_lookAt_177 ?_
    unfold fX12_lookAt_177
    rw [dm, iI_le (by omega) (by omega) (by omega) (by omega)]
    have ee : e = nD (y.2.1 p) z := by omega
    refine ⟨fun _ => h P ⟨⟨dm, fun q hq => ?_, fun i hi => ?_⟩, fun q hq => kP q (by omega), ?_, fun i hi => ?_⟩ fP, fun c => absurd (by omega) c⟩
    · have := hD.2.1 q hq
      unfold DtM at this ⊢
      rw [fP.2.2.2.1 _ _ (by simp), fP.2.2.2.1 _ _ (by simp), fP.2.2.2.1 _ _ (by simp), fP.2.2.2.1 _ _ (by simp), fP.2.2.2.1 _ _ (by simp)]; exact this
    · rw [fP.2.2.2.1 _ _ (by simp)]; exact hD.2.2 i hi
    · rw [gP, ee]; rfl
    · rw [pP i (by rw [ee]; exact hi), ee]; rfl
  | succ m ih =>
    intro e P he fP gP kP pP
    have dm : gI P 0 39 = iI (nD (y.2.1 p) z : Nat) := by rw [fP.2.1 _ (by simp)]; exact hD.1
    have DP : DsM (y.2.1 p) z P := ⟨dm, fun q hq => by
      have := hD.2.1 q hq
      unfold DtM at this ⊢
      rw [fP.2.2.2.1 _ _ (by simp), fP.2.2.2.1 _ _ (by simp), fP.2.2.2.1 _ _ (by simp), fP.2.2.2.1 _ _ (by simp), fP.2.2.2.1 _ _ (by simp)]; exact this, fun i hi => by rw [fP.2.2.2.1 _ _ (by simp)]; exact hD.2.2 i hi⟩
    obtain ⟨o, ho, e1, e2⟩ := DP.at (show e < nD (y.2.1 p) z by omega)
    have b := dt_ok hK.2.2.2.1 hK.2.2.1.1 (show e < nD (y.2.1 p) z by omega)
    have pb := pxl_lt (t := dt (y.2.1 p) z e) (by omega) (by omega)
    have hce : cnt (ptB y z k p) e ≤ e := cnt_le _ _
    have tail : ∀ (s : Int), s = knd y z k p e → 0 ≤ s → s ≤ 2 → cX12_lookAt_250 (0, 0, 0, 0) (d + 2) (iI (mny y k y.1 : Nat)) (iI (e : Nat)) (iI (e : Nat)) (iI s) P R Q := by
      intro s hs' s0 s2
      refine gX12_lookAt_250 ?_
      unfold fX12_lookAt_250
      have ve : vp_in (iI (e : Nat)) 12 := vpk (by omega) (by omega)
      have vc : vp_in (iI (cnt (ptB y z k p) e : Nat)) 12 := vpk (by omega) (by omega)
      rw [iI_cl (a := (e : Nat)) (by omega) (by omega), Int.toNat_natCast, gA_sA, if_pos rfl, if_pos rfl, if_pos rfl, gP, iI_cl (a := (cnt (ptB y z k p) e : Nat)) (by omega) (by omega), Int.toNat_natCast, show (0 : Int32) = iI 0 from rfl, iI_le (by omega) (by omega) (by omega) (by omega), show iI (e : Nat) + 1 = iI ((e + 1 : Nat)) from iI_add (e : Nat) 1, show iI (cnt (ptB y z k p) e : Nat) + 1 = iI ((cnt (ptB y z k p) e + 1 : Nat)) from iI_add _ 1]
      refine ⟨ve, ve, fun c => ⟨vc, ?_⟩, fun c => ?_⟩
      · have pt : ptB y z k p e = true := decide_eq_true (by omega)
        have ce : cnt (ptB y z k p) (e + 1) = cnt (ptB y z k p) e + 1 := by show cnt (ptB y z k p) e + (if ptB y z k p e = true then 1 else 0) = _; rw [if_pos pt]
        refine ih (e + 1) _ (by omega) (((fP.sA (by simp)).sA (by simp)).sI (by simp)) (by rw [ce]; rfl) (fun q hq => ?_) (fun i hi => ?_)
        · simp only [gI_sI, gI_sL, gI_sA, gI_sB, gI_sO, gI_sR, gI_sW, gL_sI, gL_sL, gL_sA, gL_sB, gL_sO, gL_sR, gL_sW, gA_sI, gA_sL, gA_sA, gA_sB, gA_sO, gA_sR, gB_sI, gB_sL, gB_sA, gB_sB, gB_sO, gB_sR, gB_sW, gO_sI, gO_sL, gO_sA, gO_sB, gO_sO, gO_sR, gO_sW, gR_sI, gR_sL, gR_sA, gR_sB, gR_sO, gR_sR, gR_sW, gN_sI, gN_sL, gN_sA, gN_sB, gN_sO, gN_sR, gN_sW, if_true, if_false, Nat.reduceEqDiff, reduceIte]
          by_cases cq : q = e
          · rw [if_pos cq, cq, hs']
          · rw [if_neg cq]; exact kP q (by omega)
        · rw [ce] at hi
          simp only [gI_sI, gI_sL, gI_sA, gI_sB, gI_sO, gI_sR, gI_sW, gL_sI, gL_sL, gL_sA, gL_sB, gL_sO, gL_sR, gL_sW, gA_sI, gA_sL, gA_sA, gA_sB, gA_sO, gA_sR, gB_sI, gB_sL, gB_sA, gB_sB, gB_sO, gB_sR, gB_sW, gO_sI, gO_sL, gO_sA, gO_sB, gO_sO, gO_sR, gO_sW, gR_sI, gR_sL, gR_sA, gR_sB, gR_sO, gR_sR, gR_sW, gN_sI, gN_sL, gN_sA, gN_sB, gN_sO, gN_sR, gN_sW, if_true, if_false, Nat.reduceEqDiff, reduceIte]
          by_cases ci : i = cnt (ptB y z k p) e
          · rw [if_pos ci, ci]
            congr 2
            unfold nth; rw [if_pos ⟨pt, rfl⟩]
          · rw [if_neg ci, pP i (by omega)]
            congr 2
            conv => rhs; unfold nth
            rw [if_neg (fun q => ci q.2.symm)]
      · have pt : ptB y z k p e = false := decide_eq_false (by omega)
        have ce : cnt (ptB y z k p) (e + 1) = cnt (ptB y z k p) e := by show cnt (ptB y z k p) e + (if ptB y z k p e = true then 1 else 0) = _; rw [pt]; simp
        refine ih (e + 1) _ (by omega) (fP.sA (by simp)) (by rw [ce]; exact gP) (fun q hq => ?_) (fun i hi => ?_)
        · simp only [gI_sI, gI_sL, gI_sA, gI_sB, gI_sO, gI_sR, gI_sW, gL_sI, gL_sL, gL_sA, gL_sB, gL_sO, gL_sR, gL_sW, gA_sI, gA_sL, gA_sA, gA_sB, gA_sO, gA_sR, gB_sI, gB_sL, gB_sA, gB_sB, gB_sO, gB_sR, gB_sW, gO_sI, gO_sL, gO_sA, gO_sB, gO_sO, gO_sR, gO_sW, gR_sI, gR_sL, gR_sA, gR_sB, gR_sO, gR_sR, gR_sW, gN_sI, gN_sL, gN_sA, gN_sB, gN_sO, gN_sR, gN_sW, if_true, if_false, Nat.reduceEqDiff, reduceIte]
          by_cases cq : q = e
          · rw [if_pos cq, cq, hs']
          · rw [if_neg cq]; exact kP q (by omega)
        · rw [ce] at hi
          simp only [gI_sI, gI_sL, gI_sA, gI_sB, gI_sO, gI_sR, gI_sW, gL_sI, gL_sL, gL_sA, gL_sB, gL_sO, gL_sR, gL_sW, gA_sI, gA_sL, gA_sA, gA_sB, gA_sO, gA_sR, gB_sI, gB_sL, gB_sA, gB_sB, gB_sO, gB_sR, gB_sW, gO_sI, gO_sL, gO_sA, gO_sB, gO_sO, gO_sR, gO_sW, gR_sI, gR_sL, gR_sA, gR_sB, gR_sO, gR_sR, gR_sW, gN_sI, gN_sL, gN_sA, gN_sB, gN_sO, gN_sR, gN_sW, if_true, if_false, Nat.reduceEqDiff, reduceIte]
          rw [pP i hi]
          congr 2
          conv => rhs; unfold nth
          rw [if_neg (fun q => by rw [pt] at q; exact absurd q.1 (by decide))]
    refine gX12_lookAt_177 ?_
    unfold fX12_lookAt_177
    rw [dm, iI_le (by omega) (by omega) (by omega) (by omega)]
    refine ⟨fun c => absurd c (by omega), fun _ => M_pixelOf rfl DP hK.2.2.2.1 hK.2.2.1.1 (by omega) ?_⟩
    dsimp only [hx1, rI]
    have sn : gA P 0 40 (pxl (dt (y.2.1 p) z e)) = iI (sen y z k (pxl (dt (y.2.1 p) z e)) y.1 : Nat) := by rw [fP.2.2.2.1 _ _ (by simp)]; exact hs _ pb.1
    have fr : gA P 0 27 (pxl (dt (y.2.1 p) z e)) = oI (y.2.2.2.2 (pxl (dt (y.2.1 p) z e) % 16) (pxl (dt (y.2.1 p) z e) / 16)) := by
      rw [fP.2.2.2.1 _ _ (by simp)]
      have := hS.2.2.2.2.1 (pxl (dt (y.2.1 p) z e) % 16) (pxl (dt (y.2.1 p) z e) / 16) (by omega) (by omega)
      rw [show 16 * (pxl (dt (y.2.1 p) z e) / 16) + pxl (dt (y.2.1 p) z e) % 16 = pxl (dt (y.2.1 p) z e) by omega] at this
      exact this
    have ve : vp_in (iI (e : Nat)) 140 := vpk (by omega) (by omega)
    have vo : vp_in (iI (o : Nat)) 140 := vpk ho (by omega)
    have vp : vp_in (iI (pxl (dt (y.2.1 p) z e) : Nat)) 256 := vpk pb.1 (by omega)
    have sb : sen y z k (pxl (dt (y.2.1 p) z e)) y.1 ≤ 12 := Nat.le_trans (cnt_le _ _) hc
    rw [iI_cl (a := (e : Nat)) (by omega) (by omega), Int.toNat_natCast, e1, iI_cl (a := (o : Nat)) (by omega) (by omega), Int.toNat_natCast, e2.2.2.2.2, iI_cl (a := (pxl (dt (y.2.1 p) z e) : Nat)) (by omega) (by omega), Int.toNat_natCast, sn, fr, oI_z, oI_z, show (3 : Int32) = iI 3 from rfl, iI_lt (by omega) (by omega) (by omega) (by omega), iI_eq (by omega) (by omega) (by omega) (by omega)]
    have k0 : (dt (y.2.1 p) z e).2.2.2.2 = false → spk y z k (pxl (dt (y.2.1 p) z e)) = false → knd y z k p e = 0 := fun q1 q2 => by unfold knd; rw [q1, q2]; rfl
    refine ⟨ve, vo, fun c => ⟨fun c1 => tail 0 (k0 c (decide_eq_false (by omega))).symm (by omega) (by omega), fun c1 => ⟨vp, fun c2 => tail 0 (k0 c (decide_eq_false (fun q => c2 (by have := q.2.1; omega)))).symm (by omega) (by omega), fun c2 => ⟨vp, fun c3 => tail 0 (k0 c (decide_eq_false (fun q => c3 q.2.2))).symm (by omega) (by omega), fun c3 => tail 2 ?_ (by omega) (by omega)⟩⟩⟩, fun c => tail 1 ?_ (by omega) (by omega)⟩
    · unfold knd; rw [c, show spk y z k (pxl (dt (y.2.1 p) z e)) = true from decide_eq_true ⟨by omega, by omega, c3⟩]; rfl
    · unfold knd; rw [show (dt (y.2.1 p) z e).2.2.2.2 = true by simpa using c]; rfl
theorem M_la119 {d p q : Nat} {y : SY} {z k : Int} {xk : Int32} {mx : Int32} {PB : PS} {R : List PS} {Q : Option AV → List PS → Prop} (hq : ctB y q k = true) (hh : ∀ o, o < 256 → gA PB 0 41 o = oI (hrB (y.2.1 q) z o (nD (y.2.1 q) z))) (hs : ∀ o, o < 256 → gA PB 0 40 o = iI (sen y z k o q : Nat))
    (h : ∀ P, Fr [] [] [40] [] PB P → (∀ o, o < 256 → gA P 0 40 o = iI (sen y z k o (q + 1) : Nat)) → cX12_lookAt_30 (0, 0, 0, 0) d (iI (p : Nat)) xk mx (iI ((q + 1 : Nat))) P R Q) : cX12_lookAt_119 (0, 0, 0, 0) d (iI (p : Nat)) xk mx (iI (q : Nat)) 0 PB R Q := by
  have key : ∀ (m o : Nat) (P : PS), o + m = 256 → Fr [] [] [40] [] PB P → (∀ i, i < 256 → gA P 0 40 i = iI (sen y z k i (if i < o then q + 1 else q) : Nat)) → cX12_lookAt_119 (0, 0, 0, 0) d (iI (p : Nat)) xk mx (iI (q : Nat)) (iI (o : Nat)) P R Q := by
    intro m
    induction m with
    | zero =>
      intro o P ho fP sP
      refine gX12_lookAt_119 ?_
      unfold fX12_lookAt_119
      rw [show (256 : Int32) = iI 256 from rfl, iI_le (by omega) (by omega) (by omega) (by omega), show iI (q : Nat) + 1 = iI ((q + 1 : Nat)) from iI_add (q : Nat) 1]
      exact ⟨fun _ => h P fP (fun i hi => by have := sP i hi; rw [if_pos (by omega)] at this; exact this), fun c => absurd (by omega) c⟩
    | succ m ih =>
      intro o P ho fP sP
      have e1 := sP o (by omega)
      rw [if_neg (by omega)] at e1
      have e2 : gA P 0 41 o = oI (hrB (y.2.1 q) z o (nD (y.2.1 q) z)) := by rw [fP.2.2.2.1 _ _ (by simp)]; exact hh o (by omega)
      have vo : vp_in (iI (o : Nat)) 256 := vpk (by omega) (by omega)
      have st : sen y z k o (q + 1) = sen y z k o q + (if hrB (y.2.1 q) z o (nD (y.2.1 q) z) = true then 1 else 0) := by
        show sen y z k o q + (if (ctB y q k && hrB (y.2.1 q) z o (nD (y.2.1 q) z)) = true then 1 else 0) = _
        rw [hq, Bool.true_and]
      refine gX12_lookAt_119 ?_
      unfold fX12_lookAt_119
      rw [show (256 : Int32) = iI 256 from rfl, iI_le (by omega) (by omega) (by omega) (by omega), iI_cl (a := (o : Nat)) (by omega) (by omega), Int.toNat_natCast, e1, e2, oI_z, show iI (o : Nat) + 1 = iI ((o + 1 : Nat)) from iI_add (o : Nat) 1]
      have up : ∀ v : Int32, v = iI (sen y z k o (q + 1) : Nat) → cX12_lookAt_119 (0, 0, 0, 0) d (iI (p : Nat)) xk mx (iI (q : Nat)) (iI ((o + 1 : Nat))) (sA P 0 40 o v) R Q := fun v hv => ih (o + 1) _ (by omega) (fP.sA (by simp)) (fun i hi => by
        rw [gA_sA, if_pos rfl, if_pos rfl]
        by_cases ci : i = o
        · rw [if_pos ci, ci, if_pos (by omega)]; exact hv
        · rw [if_neg ci, sP i hi]
          congr 3
          exact (by split <;> split <;> omega : (if i < o then q + 1 else q) = (if i < o + 1 then q + 1 else q)))
      refine ⟨fun c => absurd c (by omega), fun _ => ⟨vo, vo, fun c => ⟨vo, up _ ?_⟩, fun c => ⟨vo, up _ ?_⟩⟩⟩
      · rw [st, c]; exact iI_add _ 0
      · rw [st, show hrB (y.2.1 q) z o (nD (y.2.1 q) z) = true by simpa using c]; exact iI_add _ 1
  exact key 256 0 PB (by omega) Fr.rf (fun i hi => by rw [if_neg (by omega)]; exact hs i hi)
