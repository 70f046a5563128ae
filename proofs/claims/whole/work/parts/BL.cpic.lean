/-! ===== the class: picture() ===== -/
def fPcA (z : Nat × Nat × Nat × Nat) (d : Nat) (P0 P1 P2 P3 P4 P5 P6 P7 P8 P9 P10 P11 P12 : PS) (R : List PS) (Q : Option AV → List PS → Prop) : Prop := ((gI P1 0 1) ≤ (400 : Int32) → ((gI P6 0 4) < (12 : Int32) → oM (gO P12 0 11) (Go mX11_picture z (d + 1) 51 [(0, vR 12 0 0)] [vN, vR 1 0 0, vR 9 0 0] (P0 :: P1 :: P2 :: P3 :: P4 :: P5 :: P6 :: P7 :: P8 :: P9 :: P10 :: P11 :: P12 :: R) Q) (fun k1 => Go mX11_picture z (d + 1) 51 [(0, vR 12 0 0)] [vR 2 k1 0, vR 1 0 0, vR 9 0 0] (P0 :: P1 :: P2 :: P3 :: P4 :: P5 :: P6 :: P7 :: P8 :: P9 :: P10 :: P11 :: P12 :: R) Q)) ∧ (¬ (gI P6 0 4) < (12 : Int32) → Q (some (vI (-3 : Int32))) (P0 :: (sI P1 0 1 (0 : Int32)) :: P2 :: P3 :: P4 :: P5 :: P6 :: P7 :: P8 :: P9 :: P10 :: P11 :: P12 :: R))) ∧ (¬ (gI P1 0 1) ≤ (400 : Int32) → Q (some (vI (-2 : Int32))) (P0 :: P1 :: P2 :: P3 :: P4 :: P5 :: P6 :: P7 :: P8 :: P9 :: P10 :: P11 :: P12 :: R))
set_option maxRecDepth 100000 in
theorem gPcA {z : Nat × Nat × Nat × Nat} {d : Nat} {P0 P1 P2 P3 P4 P5 P6 P7 P8 P9 P10 P11 P12 : PS} {R : List PS} {Q : Option AV → List PS → Prop} (h : fPcA z d P0 P1 P2 P3 P4 P5 P6 P7 P8 P9 P10 P11 P12 R Q) : Go mX11_picture z (d + 1) 0 [(0, vR 12 0 0)] [] (P0 :: P1 :: P2 :: P3 :: P4 :: P5 :: P6 :: P7 :: P8 :: P9 :: P10 :: P11 :: P12 :: R) Q := Go.run (p := 13) (cuts := [(51, [0])]) okX11_picture 40 h
set_option maxRecDepth 100000 in
theorem gPcN {z : Nat × Nat × Nat × Nat} {d : Nat} {P0 P1 P2 P3 P4 P5 P6 P7 P8 P9 P10 P11 P12 : PS} {R : List PS} {Q : Option AV → List PS → Prop} (h : Q (some (vI (-1 : Int32))) (P0 :: (sI P1 0 1 (0 : Int32)) :: P2 :: P3 :: P4 :: P5 :: P6 :: P7 :: P8 :: P9 :: P10 :: P11 :: P12 :: R)) : Go mX11_picture z (d + 1) 54 [(0, vR 12 0 0)] [vN] (P0 :: P1 :: P2 :: P3 :: P4 :: P5 :: P6 :: P7 :: P8 :: P9 :: P10 :: P11 :: P12 :: R) Q := Go.run (p := 13) (cuts := []) okX11_picture 40 h
set_option maxRecDepth 100000 in
theorem gPcY {z : Nat × Nat × Nat × Nat} {d j : Nat} {P0 P1 P2 P3 P4 P5 P6 P7 P8 P9 P10 P11 P12 : PS} {R : List PS} {Q : Option AV → List PS → Prop} (h : Tri 77 d [vR 6 0 0, vR 3 j 0] (P0 :: (sI P1 0 1 (0 : Int32)) :: P2 :: P3 :: P4 :: P5 :: P6 :: P7 :: P8 :: P9 :: P10 :: P11 :: P12 :: R) (fun r3 h3 => hx13 h3 fun P0 P1 P2 P3 P4 P5 P6 P7 P8 P9 P10 P11 P12 R => rI r3 fun y3 => Q (some (vI y3)) (P0 :: P1 :: P2 :: P3 :: P4 :: P5 :: P6 :: P7 :: P8 :: P9 :: P10 :: P11 :: P12 :: R))) : Go mX11_picture z (d + 1) 54 [(0, vR 12 0 0)] [vR 3 j 0] (P0 :: P1 :: P2 :: P3 :: P4 :: P5 :: P6 :: P7 :: P8 :: P9 :: P10 :: P11 :: P12 :: R) Q := Go.run (p := 13) (cuts := []) okX11_picture 40 h
theorem dp_51 : decode cX11_picture 51 = .ok (.invokevirtual 125, 3) := by decide +kernel
/-- the story with one picture more -/
def addY (y : SY) (L : Nat → Int) (t : Int) : SY := (y.1 + 1, fun q => if q = y.1 then L else y.2.1 q, upZ y.2.2.1 y.1 t, upZ y.2.2.2.1 y.1 (-1), y.2.2.2.2)
abbrev tlI : List Nat := [2, 3, 1]
abbrev aR6 (P6 P6' : PS) : Prop := FrJ 0 P6 P6'
theorem C_picture {d n w kb : Nat} {b : Nat → Int} {y : SY} {z t : Int} {P0 P1 P2 P3 P4 P5 P6 P7 P8 P9 P10 P11 P12 : PS} {R : List PS} {Q : Option AV → List PS → Prop} (ht : TpC b n P1) (hw : 4 ≤ w ∧ w ≤ 16) (hsk : gO P12 0 11 = some kb) (hwi : gI P2 kb 6 = iI (w : Nat)) (hno : gI P2 kb 9 = iI z) (hz : 0 ≤ z ∧ z ≤ 9) (hS : StC 0 y z t P3 P6) (hc : y.1 ≤ 12) (hlt : ∀ q i, gR P6 0 0 q = some i → i < gN P3)
    (hlong : ¬ n ≤ 400 → Q (some (vI (iI (-2)))) (P0 :: P1 :: P2 :: P3 :: P4 :: P5 :: P6 :: P7 :: P8 :: P9 :: P10 :: P11 :: P12 :: R))
    (hfull : n ≤ 400 → y.1 = 12 → ∀ P1', Fr tlI [] [] [] P1 P1' → gI P1' 0 2 = gI P1 0 2 → gI P1' 0 3 = gI P1 0 3 → gI P1' 0 1 = iI 0 → Q (some (vI (iI (-3)))) (P0 :: P1' :: P2 :: P3 :: P4 :: P5 :: P6 :: P7 :: P8 :: P9 :: P10 :: P11 :: P12 :: R))
    (hy : ∀ L P1' P3' P6' P9', n ≤ 400 → y.1 < 12 → picS b n w n 0 0 0 (fun _ => 0) = .ok L → Fr tlI [] [] [] P1 P1' → gI P1' 0 2 = iI 0 → gI P1' 0 3 = iI (-1) → gI P1' 0 1 = iI 0 → StC 0 (addY y L t) z t P3' P6' → (∀ i, gR P6' 0 0 i = if i = y.1 then some (gN P3) else gR P6 0 0 i) → gI P3' (gN P3) 10 = -1 → gN P3' = gN P3 + 1 → (∀ j', j' < gN P3 → (∀ a, gI P3' j' a = gI P3 j' a) ∧ (∀ a, gL P3' j' a = gL P3 j' a) ∧ (∀ a i, gA P3' j' a i = gA P3 j' a i) ∧ (∀ a i, gB P3' j' a i = gB P3 j' a i)) → FrJ 0 P6 P6' → Q (some (vI (iI (y.1 : Nat)))) (P0 :: P1' :: P2 :: P3' :: P4 :: P5 :: P6' :: P7 :: P8 :: P9' :: P10 :: P11 :: P12 :: R))
    (hn : ∀ e P1' P9', n ≤ 400 → y.1 < 12 → picS b n w n 0 0 0 (fun _ => 0) = .error e → Fr tlI [] [] [] P1 P1' → FaC e P1' → gI P1' 0 1 = iI 0 → Q (some (vI (iI (-1)))) (P0 :: P1' :: P2 :: P3 :: P4 :: P5 :: P6 :: P7 :: P8 :: P9' :: P10 :: P11 :: P12 :: R)) : TriM (mt 127) (d + 4) 8 292 [vR 12 0 0] (P0 :: P1 :: P2 :: P3 :: P4 :: P5 :: P6 :: P7 :: P8 :: P9 :: P10 :: P11 :: P12 :: R) Q := by
  have n15 := ht.2.1
  refine TriM_of (by decide +kernel) rfl (show 1 ≤ 2 by omega) ?_
  refine gPcA (d := d + 3) ?_
  unfold fPcA
  rw [show gI P1 0 1 = iI (n : Nat) from ht.1, show gI P6 0 4 = iI (y.1 : Nat) from hS.1, show gO P12 0 11 = some kb from hsk, show (400 : Int32) = iI 400 from rfl, show (12 : Int32) = iI 12 from rfl, iI_le (by omega) (by omega) (by omega) (by omega), iI_lt (by omega) (by omega) (by omega) (by omega)]
  refine ⟨fun c1 => ⟨fun c2 => ?_, fun c2 => hfull (by omega) (by omega) _ (Fr.rf.sI (by simp)) rfl rfl rfl⟩, fun c1 => hlong (by omega)⟩
  dsimp only [oM]
  refine Go_callv (d := d + 3) (As := [vR 1 0 0, vR 2 kb 0]) (rest := []) (mc := 8) (ms := 292) (n := 3) dp_51 (by decide +kernel) (by decide +kernel) rfl rfl (by show 0 ≤ 8; omega) ⟨by show 0 + 8 ≤ 8; omega, by show 0 + 292 ≤ 292; omega⟩ (fun _ => C_read (Q := fun r h => Go mX11_picture (0 + 8, 0 + 292, 8, 292) (d + 3 + 1) 54 [(0, vR 12 0 0)] (r.toList ++ []) h Q) ht hw hwi hno hz (fun L P1' P3' P9' hp e1 e2 f1 hPi fO => ?_) (fun e P1' P9' hp fa f1 => ?_)) (fun r h q => q)
  · refine gPcY (d := d + 3) ?_
    have F1 : Fr tlI [] [] [] P1 (sI P1' 0 1 (0 : Int32)) := (f1.mono (by simp) (by simp) (by simp) (by simp)).sI (by simp)
    refine enX7_add ?_
    unfold fX7_add_0
    rw [show gI P6 0 4 = iI (y.1 : Nat) from hS.1, show gI P6 0 5 = iI t from hS.2.1, show (12 : Int32) = iI 12 from rfl, iI_lt (by omega) (by omega) (by omega) (by omega), iI_cl (a := (y.1 : Nat)) (by omega) (by omega), Int.toNat_natCast]
    have vk : vp_in (iI (y.1 : Nat)) 12 := vpk (by omega) (by omega)
    refine ⟨fun _ => ⟨vk, vk, vk, ?_⟩, fun q => absurd (by omega) q⟩
    dsimp only [hx13, rI]
    have ec : iI (y.1 : Nat) + 1 - 1 = iI (y.1 : Nat) := by rw [show (1 : Int32) = iI 1 from rfl, iI_add, iI_sub]; refine congrArg iI ?_; omega
    have ec1 : iI (y.1 : Nat) + 1 = iI ((y.1 + 1 : Nat)) := iI_add (y.1 : Nat) 1
    have old : ∀ j', j' < gN P3 → (∀ a, gI P3' j' a = gI P3 j' a) ∧ (∀ a, gL P3' j' a = gL P3 j' a) ∧ (∀ a i, gA P3' j' a i = gA P3 j' a i) ∧ (∀ a i, gB P3' j' a i = gB P3 j' a i) := fun j' hj => by
      have o := fO.1.2 j' (by omega)
      have ne : ¬ j' = P3.1 := fun g => by have : gN P3 = P3.1 := rfl; omega
      refine ⟨fun a => (o.1 a).trans ?_, fun a => (o.2.1 a).trans ?_, fun a i => (o.2.2.1 a i).trans ?_, fun a i => (o.2.2.2.1 a i).trans ?_⟩
      · show (if j' = P3.1 then _ else _) = _; rw [if_neg ne]
      · show (if j' = P3.1 then _ else _) = _; rw [if_neg ne]
      · show (if j' = P3.1 then (fun _ => (0 : Int32)) else gA P3 j' a) i = _; rw [if_neg ne]
      · show (if j' = P3.1 then (fun _ => (0 : Int64)) else gB P3 j' a) i = _; rw [if_neg ne]
    have gRn : ∀ i, gR (sI (sA (sA (sR P6 0 0 y.1 (some (gN P3))) 0 1 y.1 (iI t)) 0 2 y.1 (-1 : Int32)) 0 4 (iI (y.1 : Nat) + 1)) 0 0 i = if i = y.1 then some (gN P3) else gR P6 0 0 i := fun i => by
      show gR (sR P6 0 0 y.1 (some (gN P3))) 0 0 i = _
      rw [gR_sR, if_pos rfl, if_pos rfl]
    have old' : ∀ j' L z, j' < gN P3 → PiC j' L z P3 → PiC j' L z P3' := fun j' L z hj hp => by
      obtain ⟨o1, o2, o3, o4⟩ := old j' hj
      refine ⟨by rw [o1]; exact hp.1, fun i hi => ?_, fun i hi => by rw [o1]; exact hp.2.2.1 i hi, fun r c hr hc => by rw [o3]; exact hp.2.2.2.1 r c hr hc, by rw [o1]; exact hp.2.2.2.2⟩
      rw [o3, o3, o3, o3]; exact hp.2.1 i hi
    have fin : ∀ P6', P6' = sI (sA (sA (sR P6 0 0 y.1 (some (gN P3))) 0 1 y.1 (iI t)) 0 2 y.1 (-1 : Int32)) 0 4 (iI (y.1 : Nat) + 1) → Q (some (vI (iI (y.1 : Nat)))) (P0 :: (sI P1' 0 1 (0 : Int32)) :: P2 :: P3' :: P4 :: P5 :: P6' :: P7 :: P8 :: P9' :: P10 :: P11 :: P12 :: R) := fun P6' e6 => by
      refine hy L (sI P1' 0 1 (0 : Int32)) P3' P6' P9' (by omega) (by omega) hp F1 e1 e2 rfl ?_ (by rw [e6]; exact gRn) ?_ ?_ old (by rw [e6]; exact (((FrJ.rf.sR).sA).sA).sI)
      · subst e6
        refine ⟨ec1, hS.2.1, hS.2.2.1, fun c r hc hr => hS.2.2.2.1 c r hc hr, fun q hq => ?_⟩
        have hq' : q < y.1 + 1 := hq
        rw [gRn]
        by_cases c : q = y.1
        · subst c
          refine ⟨?_, ?_, gN P3, by rw [if_pos rfl], ?_⟩
          · show gA (sA (sR P6 0 0 y.1 (some (gN P3))) 0 1 y.1 (iI t)) 0 1 y.1 = iI (upZ y.2.2.1 y.1 t y.1)
            rw [gA_sA, if_pos rfl, if_pos rfl, if_pos rfl]; unfold upZ; rw [if_pos rfl]
          · show gA (sA (sA (sR P6 0 0 y.1 (some (gN P3))) 0 1 y.1 (iI t)) 0 2 y.1 (-1 : Int32)) 0 2 y.1 = iI (upZ y.2.2.2.1 y.1 (-1) y.1)
            rw [gA_sA, if_pos rfl, if_pos rfl, if_pos rfl]; unfold upZ; rw [if_pos rfl]; rfl
          · show PiC (gN P3) (if y.1 = y.1 then L else y.2.1 y.1) z P3'
            rw [if_pos rfl]; exact hPi
        · obtain ⟨s1, s2, i, s3, s4⟩ := hS.2.2.2.2 q (by omega)
          refine ⟨?_, ?_, i, by rw [if_neg c]; exact s3, ?_⟩
          · show gA (sA (sR P6 0 0 y.1 (some (gN P3))) 0 1 y.1 (iI t)) 0 1 q = iI (upZ y.2.2.1 y.1 t q)
            rw [gA_sA, if_pos rfl, if_pos rfl, if_neg c]; unfold upZ; rw [if_neg c]; exact s1
          · show gA (sA (sA (sR P6 0 0 y.1 (some (gN P3))) 0 1 y.1 (iI t)) 0 2 y.1 (-1 : Int32)) 0 2 q = iI (upZ y.2.2.2.1 y.1 (-1) q)
            rw [gA_sA, if_pos rfl, if_pos rfl, if_neg c]; unfold upZ; rw [if_neg c]; exact s2
          · show PiC i (if q = y.1 then L else y.2.1 q) z P3'
            rw [if_neg c]; exact old' i _ z (hlt q i s3) s4
      · rw [fO.2.1 _ (by simp), nw_I]; rfl
      · rw [fO.1.1]; rfl
    have := fin _ rfl
    show Q (some (vI (iI (y.1 : Nat) + 1 - 1))) _
    rw [ec]
    exact this
  · refine gPcN (d := d + 3) ?_
    exact hn e (sI P1' 0 1 (0 : Int32)) P9' (by omega) (by omega) hp ((f1.mono (by simp) (by simp) (by simp) (by simp)).sI (by simp)) ⟨fa.1, fa.2⟩ rfl
