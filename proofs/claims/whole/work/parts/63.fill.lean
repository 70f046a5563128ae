/-! ===== Arrays.fill on a story's columns ===== -/
def cFs (z : Nat × Nat × Nat × Nat) (d j : Nat) (v x : Int32) (P0 P1 P2 P3 P4 P5 P6 : PS) (R : List PS) (Q : Option AV → List PS → Prop) : Prop := Go mJ7_fill_53178 z d 5 [(0, vR 6 j 4), (1, vI v), (2, vI x), (3, vI (16 : Int32))] [] (P0 :: P1 :: P2 :: P3 :: P4 :: P5 :: P6 :: R) Q
def fFs (z : Nat × Nat × Nat × Nat) (d j : Nat) (v x : Int32) (P0 P1 P2 P3 P4 P5 P6 : PS) (R : List PS) (Q : Option AV → List PS → Prop) : Prop := ((16 : Int32) ≤ x → Q none (P0 :: P1 :: P2 :: P3 :: P4 :: P5 :: P6 :: R)) ∧ (¬ (16 : Int32) ≤ x → vp_in x 16 ∧ cFs z d j v (x + (1 : Int32)) P0 P1 P2 P3 P4 P5 (sA P6 j 3 (x.toNatClampNeg) v) R Q)
set_option maxRecDepth 100000 in
theorem gFs {z : Nat × Nat × Nat × Nat} {d j : Nat} {v x : Int32} {P0 P1 P2 P3 P4 P5 P6 : PS} {R : List PS} {Q : Option AV → List PS → Prop} (h : fFs z d j v x P0 P1 P2 P3 P4 P5 P6 R Q) : cFs z d j v x P0 P1 P2 P3 P4 P5 P6 R Q := Go.run (p := 7) (cuts := [(5, [0, 1, 2, 3])]) okJ7_fill_53178 21 h
set_option maxRecDepth 100000 in
theorem enFs {d j : Nat} {v : Int32} {P0 P1 P2 P3 P4 P5 P6 : PS} {R : List PS} {Q : Option AV → List PS → Prop} (h : cFs (0, 0, 0, 0) d j v (0 : Int32) P0 P1 P2 P3 P4 P5 P6 R Q) : Tri 302 d [vR 6 j 4, vI v] (P0 :: P1 :: P2 :: P3 :: P4 :: P5 :: P6 :: R) Q := Tri_of (by decide +kernel) rfl (Go.run (p := 7) (cuts := [(5, [0, 1, 2, 3])]) okJ7_fill_53178 21 h)
