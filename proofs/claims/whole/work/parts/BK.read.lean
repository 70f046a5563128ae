/-! ===== the class: a PICTURE is read ===== -/
def cRd40 (z : Nat × Nat × Nat × Nat) (d : Nat) (P0 P1 P2 P3 P4 P5 P6 P7 P8 P9 : PS) (R : List PS) (Q : Option AV → List PS → Prop) : Prop := Go mX4_read z (d + 1) 40 [(0, vR 9 0 0)] [] (P0 :: P1 :: P2 :: P3 :: P4 :: P5 :: P6 :: P7 :: P8 :: P9 :: R) Q
def cRd51 (z : Nat × Nat × Nat × Nat) (d j : Nat) (x : Int32) (P0 P1 P2 P3 P4 P5 P6 P7 P8 P9 : PS) (R : List PS) (Q : Option AV → List PS → Prop) : Prop := Go mX4_read z (d + 1) 51 [(0, vR 9 0 0), (3, vR 3 j 0), (4, vI x)] [] (P0 :: P1 :: P2 :: P3 :: P4 :: P5 :: P6 :: P7 :: P8 :: P9 :: R) Q
def fRd0 (z : Nat × Nat × Nat × Nat) (d j2 : Nat) (P0 P1 P2 P3 P4 P5 P6 P7 P8 P9 : PS) (R : List PS) (Q : Option AV → List PS → Prop) : Prop := Tri 302 d [vR 9 0 1, vI (0 : Int32)] (P0 :: (sI (sI P1 0 2 (0 : Int32)) 0 3 (-1 : Int32)) :: P2 :: P3 :: P4 :: P5 :: P6 :: P7 :: P8 :: P9 :: R) (fun r1 h1 => hx10 h1 fun P0_1 P1_1 P2_1 P3_1 P4_1 P5_1 P6_1 P7_1 P8_1 P9_1 R_1 => rV r1 (Tri 51 d [vR 9 0 0, vR 1 0 0, vI (gI P2_1 j2 6)] (P0_1 :: P1_1 :: P2_1 :: P3_1 :: P4_1 :: P5_1 :: P6_1 :: P7_1 :: P8_1 :: P9_1 :: R_1) (fun r2 h2 => hx10 h2 fun P0_2 P1_2 P2_2 P3_2 P4_2 P5_2 P6_2 P7_2 P8_2 P9_2 R_2 => rI r2 fun y2 => (¬ y2 = 0 → cRd40 z d P0_2 P1_2 P2_2 P3_2 P4_2 P5_2 P6_2 P7_2 P8_2 (sI P9_2 0 3 (gI P2_2 j2 9)) R_2 Q) ∧ (y2 = 0 → Q (some (vN)) (P0_2 :: P1_2 :: P2_2 :: P3_2 :: P4_2 :: P5_2 :: P6_2 :: P7_2 :: P8_2 :: P9_2 :: R_2)))))
def fRd51 (z : Nat × Nat × Nat × Nat) (d j3 : Nat) (x4 : Int32) (P0 P1 P2 P3 P4 P5 P6 P7 P8 P9 : PS) (R : List PS) (Q : Option AV → List PS → Prop) : Prop := ((256 : Int32) ≤ x4 → Tri 39 d [vR 3 j3 0] (P0 :: P1 :: P2 :: P3 :: P4 :: P5 :: P6 :: P7 :: P8 :: P9 :: R) (fun r3 h3 => hx10 h3 fun P0_3 P1_3 P2_3 P3_3 P4_3 P5_3 P6_3 P7_3 P8_3 P9_3 R_3 => rV r3 (Q (some (vR 3 j3 0)) (P0_3 :: P1_3 :: P2_3 :: P3_3 :: P4_3 :: P5_3 :: P6_3 :: P7_3 :: P8_3 :: P9_3 :: R_3)))) ∧ (¬ (256 : Int32) ≤ x4 → vp_in x4 256 ∧ (((gA P9 0 0 x4.toNatClampNeg) ≤ (gI P9 0 3) → cRd51 z d j3 (x4 + (1 : Int32)) P0 P1 P2 P3 P4 P5 P6 P7 P8 P9 R Q) ∧ (¬ (gA P9 0 0 x4.toNatClampNeg) ≤ (gI P9 0 3) → Tri 52 d [vR 9 0 0, vI x4, vR 3 j3 0] (P0 :: P1 :: P2 :: P3 :: P4 :: P5 :: P6 :: P7 :: P8 :: P9 :: R) (fun r4 h4 => hx10 h4 fun P0_4 P1_4 P2_4 P3_4 P4_4 P5_4 P6_4 P7_4 P8_4 P9_4 R_4 => rV r4 (cRd51 z d j3 (x4 + (1 : Int32)) P0_4 P1_4 P2_4 P3_4 P4_4 P5_4 P6_4 P7_4 P8_4 P9_4 R_4 Q)))))
set_option maxRecDepth 100000 in
theorem gRd51 {z : Nat × Nat × Nat × Nat} {d j : Nat} {x : Int32} {P0 P1 P2 P3 P4 P5 P6 P7 P8 P9 : PS} {R : List PS} {Q : Option AV → List PS → Prop} (h : fRd51 z d j x P0 P1 P2 P3 P4 P5 P6 P7 P8 P9 R Q) : cRd51 z d j x P0 P1 P2 P3 P4 P5 P6 P7 P8 P9 R Q := Go.run (p := 10) (cuts := [(51, [0, 3, 4])]) okX4_read 40 h
set_option maxRecDepth 100000 in
theorem gRd47 {z : Nat × Nat × Nat × Nat} {d j : Nat} {P0 P1 P2 P3 P4 P5 P6 P7 P8 P9 : PS} {R : List PS} {Q : Option AV → List PS → Prop} (h : cRd51 z d j (0 : Int32) P0 P1 P2 P3 P4 P5 P6 P7 P8 P9 R Q) : Go mX4_read z (d + 1) 47 [(0, vR 9 0 0)] [vR 3 j 0] (P0 :: P1 :: P2 :: P3 :: P4 :: P5 :: P6 :: P7 :: P8 :: P9 :: R) Q := Go.run (p := 10) (cuts := [(51, [0, 3, 4])]) okX4_read 6 h
set_option maxRecDepth 100000 in
theorem gRd0 {z : Nat × Nat × Nat × Nat} {d j2 : Nat} {P0 P1 P2 P3 P4 P5 P6 P7 P8 P9 : PS} {R : List PS} {Q : Option AV → List PS → Prop} (h : fRd0 z d j2 P0 P1 P2 P3 P4 P5 P6 P7 P8 P9 R Q) : Go mX4_read z (d + 1) 0 [(0, vR 9 0 0), (1, vR 1 0 0), (2, vR 2 j2 0)] [] (P0 :: P1 :: P2 :: P3 :: P4 :: P5 :: P6 :: P7 :: P8 :: P9 :: R) Q := Go.run (p := 10) (cuts := [(40, [0])]) okX4_read 40 h
theorem dn_40 : decode cX4_read 40 = .ok (.new 46, 3) := by decide +kernel
theorem dn_43 : decode cX4_read 43 = .ok (.dup, 1) := by decide +kernel
theorem dn_44 : decode cX4_read 44 = .ok (.invokespecial 48, 3) := by decide +kernel
theorem cl9_3 : Cond.classLink (rn 9) 46 (rn 3) ∈ GW := wGW_ok (i := 811) (by decide +kernel)
theorem ct9_3 : (Cond.methodLink (rn 9) 48 mi_3.2.2.1 ∈ GW) ∨ ∃ host, Cond.methodLinkNest (rn 9) 48 mi_3.2.2.1 (rn host) ∈ NW := Or.inr ⟨12, wNW_ok (i := 813) (by decide +kernel)⟩
abbrev rdPI : List Nat := [5, 6, 7]
abbrev rdPA : List Nat := [0, 1, 2, 3, 4]
abbrev tfI : List Nat := [2, 3]
theorem TpC.fau {b : Nat → Int} {n : Nat} {u v : Int32} {P : PS} (h : TpC b n P) : TpC b n (sI (sI P 0 2 u) 0 3 v) := ⟨h.1, h.2.1, h.2.2⟩
theorem nw3_k {P : PS} {L : Nat → Int} {z : Int} : PkC (gN P) L z 0 (nwO P fi_3 (fun _ => none)) := by
  refine ⟨?_, fun i hi => absurd hi (by show ¬ i < m12 0; unfold m12; rw [if_pos (by omega)]; omega), fun i hi => absurd hi (by show ¬ i < m12 0; unfold m12; rw [if_pos (by omega)]; omega), ?_, fun r _ => ?_⟩
  · rw [nw_I]; rfl
  · rw [nw_I]; rfl
  · rw [nw_A]; rfl
theorem C_read {d n w k2 : Nat} {b : Nat → Int} {z : Int} {P0 P1 P2 P3 P4 P5 P6 P7 P8 P9 : PS} {R : List PS} {Q : Option AV → List PS → Prop} (ht : TpC b n P1) (hw : 4 ≤ w ∧ w ≤ 16) (hwi : gI P2 k2 6 = iI (w : Nat)) (hno : gI P2 k2 9 = iI z) (hz : 0 ≤ z ∧ z ≤ 9)
    (hy : ∀ L P1' P3' P9', picS b n w n 0 0 0 (fun _ => 0) = .ok L → gI P1' 0 2 = iI 0 → gI P1' 0 3 = iI (-1) → Fr tfI [] [] [] P1 P1' → PiC (gN P3) L z P3' → FrO (gN P3) rdPI [] rdPA [] (nwO P3 fi_3 (fun _ => none)) P3' → Q (some (vR 3 (gN P3) 0)) (P0 :: P1' :: P2 :: P3' :: P4 :: P5 :: P6 :: P7 :: P8 :: P9' :: R))
    (hn : ∀ e P1' P9', picS b n w n 0 0 0 (fun _ => 0) = .error e → FaC e P1' → Fr tfI [] [] [] P1 P1' → Q (some vN) (P0 :: P1' :: P2 :: P3 :: P4 :: P5 :: P6 :: P7 :: P8 :: P9' :: R)) : TriM (mt 50) (d + 3) 8 292 [vR 9 0 0, vR 1 0 0, vR 2 k2 0] (P0 :: P1 :: P2 :: P3 :: P4 :: P5 :: P6 :: P7 :: P8 :: P9 :: R) Q := by
  refine TriM_of (by decide +kernel) rfl (show 3 ≤ 5 by omega) ?_
  refine gRd0 (d := d + 2) ?_
  unfold fRd0
  have f1 : Fr tfI [] [] [] P1 (sI (sI P1 0 2 (0 : Int32)) 0 3 (-1 : Int32)) := ((Fr.rf).sI (by simp)).sI (by simp)
  have t1 : TpC b n (sI (sI P1 0 2 (0 : Int32)) 0 3 (-1 : Int32)) := ht.fau
  have g2 : gI (sI (sI P1 0 2 (0 : Int32)) 0 3 (-1 : Int32)) 0 2 = iI 0 := rfl
  have g3 : gI (sI (sI P1 0 2 (0 : Int32)) 0 3 (-1 : Int32)) 0 3 = iI (-1) := rfl
  generalize sI (sI P1 0 2 (0 : Int32)) 0 3 (-1 : Int32) = A1 at *
  refine C_fillL (fun A9 l0 _ => ?_)
  dsimp only [hx10, rV]
  rw [hwi]
  refine C_readRows t1 hw l0 (fun L B9 hp l1 _ => ?_) (fun e B1 B9 hp fa fb _ => ?_)
  · dsimp only [hx10, rI]
    refine ⟨fun _ => ?_, fun q => absurd q (by decide)⟩
    rw [hno]
    have hL := (picS_ok hw.2 n 0 0 0 (fun _ => 0) L (by omega) (by omega) (fun i => ⟨Int.le_refl 0, by show (0 : Int) ≤ 9; omega⟩) (fun i _ => rfl) hp).1
    have G0 : LgC L z 0 (sI B9 0 3 (iI z)) := ⟨rfl, fun i hi => by
      have e0 : rem L z 0 i = L i := by
        unfold rem
        rw [if_neg (fun q => by obtain ⟨j, h1, _⟩ := dcd_t.mp q; omega)]
      rw [e0]; exact l1 i hi⟩
    generalize sI B9 0 3 (iI z) = C9 at *
    refine Go_new (Mi := mi_3) (d' := d) (mc := sumC ops_3) (ms := sumS 3 ops_3) dn_40 dn_43 dn_44 cl9_3 ct9_3 ib_3 (by omega) (by rw [sz_3.1]; show 0 + 1 + 7 ≤ 8; omega) (by rw [sz_3.2]; show 0 + nf 3 + 279 ≤ 292; decide +kernel) (fun hwf => ti_3 hwf) (fun hs' _ he => by rw [he]; exact Nat.lt_succ_self (gN P3)) (fun hs' he => ?_)
    rw [he]
    refine gRd47 (d := d + 2) (j := gN P3) (P3 := nwO P3 fi_3 (fun _ => none)) ?_
    have key : ∀ (m k : Nat) (A3 D9 : PS), k + m = 256 → LgC L z k D9 → PkC (gN P3) L z (cnt (fstB L z) k) A3 → FrO (gN P3) rdPI [] rdPA [] (nwO P3 fi_3 (fun _ => none)) A3 → ∀ zz, cRd51 zz (d + 2) (gN P3) (iI (k : Nat)) P0 A1 P2 A3 P4 P5 P6 P7 P8 D9 R Q := by
      intro m
      induction m with
      | zero =>
        intro k A3 D9 hk hG hP hF zz
        refine gRd51 ?_
        unfold fRd51
        rw [show (256 : Int32) = iI 256 from rfl, iI_le (by omega) (by omega) (by omega) (by omega)]
        have hk' : k = 256 := by omega
        refine ⟨fun _ => C_finish (d := d + 1) hL hz.1 (by rw [hk'] at hP; exact hP) (fun B3 hB fB => ?_), fun c => absurd (by omega) c⟩
        dsimp only [hx10, rV]
        exact hy L A1 B3 D9 hp g2 g3 f1 hB (hF.tr (fB.mono (by simp) (by simp) (by simp) (by simp)))
      | succ m ih =>
        intro k A3 D9 hk hG hP hF zz
        refine gRd51 ?_
        unfold fRd51
        have hr := rem_ok (z := z) hL k k
        rw [show (256 : Int32) = iI 256 from rfl, iI_le (by omega) (by omega) (by omega) (by omega), iI_cl (a := (k : Nat)) (by omega) (by omega), Int.toNat_natCast, show iI (k : Nat) + 1 = iI ((k + 1 : Nat)) from iI_add (k : Nat) 1, hG.1, hG.2 k (by omega), iI_le (by omega) (by omega) (by omega) (by omega)]
        refine ⟨fun c => absurd c (by omega), fun _ => ⟨vpk (by omega) (by omega), fun c => ?_, fun c => ?_⟩⟩
        · have nf1 : ¬ fst1 L z k := fun g => by have := ((rem_fst (k := k) hz.1).mpr g).2; omega
          refine ih (k + 1) A3 D9 (by omega) ⟨hG.1, fun i hi => by rw [rem_no nf1]; exact hG.2 i hi⟩ (by rw [cnt_f0 nf1]; exact hP) hF zz
        · have f1' : fst1 L z k := (rem_fst (k := k) hz.1).mp ⟨by omega, by omega⟩
          refine C_gather (d := d) rfl hL hz (by omega) f1' hG hP (fun B3 B9 hG' hP' fB _ => ?_)
          dsimp only [hx10, rV]
          exact ih (k + 1) B3 B9 (by omega) hG' hP' (hF.tr (fB.mono (by simp) (by simp) (by simp) (by simp))) zz
    exact key 256 0 (nwO P3 fi_3 (fun _ => none)) C9 (by omega) G0 nw3_k FrO.rf _
  · dsimp only [hx10, rI]
    exact ⟨fun q => absurd rfl q, fun _ => hn e B1 B9 hp fa (f1.trs (fb.mono (by simp) (by simp) (by simp) (by simp)))⟩
