def KO (b : Nat → Int) (n j : Nat) (out : List NT) (X : Nat → Nat → List NT → Prop) (P0 P1 P2 P3 P4 : PS) (R : List PS) (Q : Option AV → List PS → Prop) : Prop := ∀ q' u' C P1' P4', X q' u' C → TxC true b n P1' → TkC (tok true b n q') P1' → Fr tsI [7] [] [] P1 P1' → RuC j u' (out ++ C) P4' → frR j P4 P4' → Q (some (vI 1)) (P0 :: P1' :: P2 :: P3 :: P4' :: R)
def KE (j : Nat) (X : PE → Prop) (P0 P1 P2 P3 P4 : PS) (R : List PS) (Q : Option AV → List PS → Prop) : Prop := ∀ e P1' P4', X e → FaC e P1' → Fr tcI [7] [] [] P1 P1' → frR j P4 P4' → Q (some (vI 0)) (P0 :: P1' :: P2 :: P3 :: P4' :: R)
def TR (b : Nat → Int) (n j i : Nat) (ok : Nat → Nat → Nat → Nat → List NT → Prop) (er : Nat → Nat → PE → Prop) (w D : Nat) : Prop := ∀ (q u : Nat) (out : List NT) (P0 P1 P2 P3 P4 : PS) (R : List PS) (Q : Option AV → List PS → Prop), q ≤ n → TxC true b n P1 → TkC (tok true b n q) P1 → RuC j u out P4 → out.length ≤ q → u ≤ 40 → KO b n j out (ok q u) P0 P1 P2 P3 P4 R Q → KE j (er q u) P0 P1 P2 P3 P4 R Q → Tri i D [vR 11 0 0, vR 1 0 0, vR 4 j 0, vI (iI (w : Nat))] (P0 :: P1 :: P2 :: P3 :: P4 :: R) Q
theorem cw_0 (v : Int) : cw (0, v) = v := rfl
theorem cw_q {k v : Int} (h1 : 1 ≤ k) (h8 : k ≤ 8) : cw (k, v) = -k := by
  unfold cw
  rw [if_neg (show ¬ k = 0 by omega), if_pos (show k ≤ 8 from h8)]
theorem ntc_n {t : TK} (h : knw t < 0) : ntc t = (0, t.2.2.2.1) := by unfold ntc; rw [if_pos h]
theorem ntc_k {t : TK} (h : 0 ≤ knw t) : ntc t = (knw t, 0) := by unfold ntc; rw [if_neg (by omega)]
section RC
variable {b : Nat → Int} {n j : Nat}
/-- on to the next token -/
theorem C_nx {d q : Nat} {P0 P1 : PS} {R : List PS} {Q : Option AV → List PS → Prop} (hq : q ≤ n) (ht : TxC true b n P1) (hk : TkC (tok true b n q) P1) (h1 : (tkq b n q).1 = 1 ∨ (tkq b n q).1 = 2 ∨ (tkq b n q).1 = 4) (h : ∀ P1', TxC true b n P1' → TkC (tok true b n (tkq b n q).2.2.1) P1' → Fr tsI [7] [] [] P1 P1' → Q none (P0 :: P1' :: R)) : Tri 104 (d + 1) [vR 1 0 0] (P0 :: P1 :: R) Q := by
  have tl := tq_lt b n hq h1
  have h3 : (tok true b n q).1 ≠ 3 := by
    have h1' : (tok true b n q).1 = 1 ∨ (tok true b n q).1 = 2 ∨ (tok true b n q).1 = 4 := h1
    omega
  refine C_next ht (hk.2.2.2.2 h3) tl.2 (fun P1' f1 k1 => ?_)
  exact h P1' (ht.fr f1 (by simp) (by simp) (by simp) (by simp)) k1 (f1.mono (by simp) (by simp) (by simp) (by simp))
theorem FrT {P P' P'' : PS} (h : Fr tsI [7] [] [] P P') (h' : Fr tcI [7] [] [] P' P'') : Fr tcI [7] [] [] P P'' := h.te h'
theorem FrF {P P' : PS} (h : Fr [2, 3] [] [] [] P P') : Fr tcI [7] [] [] P P' := h.mono (by simp) (by simp) (by simp) (by simp)
theorem C_unit {w D : Nat} (hn : n ≤ 400) (hw : w ≤ 7) (hE : w ≤ 6 → TR b n j 67 (E_ok b n (w + 1)) (E_er b n (w + 1)) (w + 1) (D + 2)) : TR b n j 72 (U_ok b n w) (U_er b n w) w (D + 3) := by
  intro q u out P0 P1 P2 P3 P4 R Q hq ht hk hR hl hu ko ke
  have kk := hk.k hq
  have kc := knw_c (tkq b n q)
  have ref : ∀ {x : Int32}, ¬ unt (tkq b n q) ∨ 40 ≤ u ∨ (isC (tkq b n q) 40 ∧ 6 < w) → Tri 103 (D + 2) [vR 1 0 0] (P0 :: P1 :: P2 :: P3 :: P4 :: R) (fun r3 h3 => hx5 h3 fun P0_3 P1_3 P2_3 P3_3 P4_3 R_3 => rI r3 fun y3 => (y3 = 0 ∨ y3 = 1) ∧ Q (some (vI y3)) (P0_3 :: P1_3 :: P2_3 :: P3_3 :: P4_3 :: R_3)) := fun hb => by
    refine C_refuseHere hq hk (fun P1' fa fr => ?_)
    dsimp only [hx5, rI]
    exact ⟨Or.inl rfl, ke _ P1' P4 (u_bad hu hb) fa (FrF fr) frR.rf⟩
  have c70 : ∀ (y1 s kq : Int32), (y1 = 0 ∧ ¬ isC (tkq b n q) 40 ∨ y1 = 1 ∧ isC (tkq b n q) 40) → (s = 1 ∧ (tkq b n q).1 = 2 ∨ s = 0 ∧ (tkq b n q).1 ≠ 2) → kq = iI (if knw (tkq b n q) < 0 then -1 else knw (tkq b n q) - 1) → unt (tkq b n q) → u < 40 → (isC (tkq b n q) 40 → w ≤ 6) → cX6_readUnit_70 (0, 0, 0, 0) (D + 2) j (iI (w : Nat)) y1 s kq P0 P1 P2 P3 P4 R Q := by
    intro y1 s kq hy1 hs hkq hun hu40 hw6
    refine gX6_readUnit_70 ?_
    unfold fX6_readUnit_70
    have R1 : RuC j (u + 1) out (sI P4 j 5 (gI P4 j 5 + 1)) := by
      refine ⟨?_, ?_, fun i hi => hR.2.2 i hi⟩
      · rw [gI_sI, if_pos rfl, if_pos rfl, show gI P4 j 5 = _ from hR.1]; exact iI_add _ 1
      · rw [gI_sI, if_neg (by decide)]; exact hR.2.1
    have F1 : frR j P4 (sI P4 j 5 (gI P4 j 5 + 1)) := ⟨FrJ.rf.sI, by rw [gI_sI, if_neg (by decide)], fun _ => rfl, fun _ => rfl⟩
    have val : ¬ isC (tkq b n q) 40 → ∀ x : Int32, x = iI (cw (ntc (tkq b n q))) → Tri 56 (D + 2) [vR 4 j 0, vI x] (P0 :: P1 :: P2 :: P3 :: (sI P4 j 5 (gI P4 j 5 + 1)) :: R) (fun r11 h11 => hx5 h11 fun P0_11 P1_11 P2_11 P3_11 P4_11 R_11 => rV r11 (Tri 104 (D + 2) [vR 1 0 0] (P0_11 :: P1_11 :: P2_11 :: P3_11 :: P4_11 :: R_11) (fun r12 h12 => hx5 h12 fun P0_12 P1_12 P2_12 P3_12 P4_12 R_12 => rV r12 (((1 : Int32) = 0 ∨ (1 : Int32) = 1) ∧ Q (some (vI 1)) (P0_12 :: P1_12 :: P2_12 :: P3_12 :: P4_12 :: R_12))))) := by
      intro n4 x hx
      have t12 : (tkq b n q).1 = 1 ∨ (tkq b n q).1 = 2 ∨ (tkq b n q).1 = 4 := by
        rcases hun with g | g | g
        · exact Or.inr (Or.inl g)
        · exact absurd g n4
        · exact Or.inl (kc.2.2 g)
      have tl := tq_lt b n hq t12
      refine C_emit hx R1 (by omega) (fun P4' R2 F2 => ?_)
      dsimp only [hx5, rV]
      refine C_nx hq ht hk t12 (fun P1' t1 k1 f1 => ?_)
      dsimp only [hx5, rV]
      exact ⟨Or.inr rfl, ko _ _ _ P1' P4' (u_val hq hun n4 hu40) t1 k1 f1 R2 (F1.tr F2)⟩
    refine ⟨fun c => ?_, fun c => ⟨fun c1 => ?_, fun c1 => ?_⟩⟩
    · have h4 : isC (tkq b n q) 40 := by
        rcases hy1 with g | g
        · exact absurd g.1 c
        · exact g.2
      have w6 := hw6 h4
      have tl := tq_lt b n hq (Or.inr (Or.inr h4.1))
      refine C_nx hq ht hk (Or.inr (Or.inr h4.1)) (fun P1' t1 k1 f1 => ?_)
      dsimp only [hx5, rV]
      rw [show iI (w : Nat) + 1 = iI ((w + 1 : Nat)) from iI_add (w : Nat) 1]
      refine hE w6 _ (u + 1) out P0 P1' P2 P3 _ R _ tl.2 t1 k1 R1 (by omega) (by omega) (fun q' u' C A1 A4 hX tA kA fA RA FA => ?_) (fun e A1 A4 hX fa fA FA => ?_)
      · dsimp only [hx5, rI]
        refine ⟨fun g => absurd g (by decide), fun _ => ?_⟩
        refine C_takeSign 41 (by omega) (by omega) rfl hX.2.2.1 tA kA (fun B1 q2 hs2 _ hq2 kB fB => ?_) (fun B1 e he fa fB => ?_)
        · dsimp only [hx5, rI]
          unfold sgnS at hs2
          split at hs2
          · rename_i cc
            cases hs2
            refine ⟨fun g => absurd g (by decide), fun _ => ⟨Or.inr rfl, ko _ _ _ B1 A4 (u_ok hq h4 hu40 w6 hX cc) (tA.fr fB (by simp) (by simp) (by simp) (by simp)) kB (f1.trs (fA.trs fB)) RA (F1.tr FA)⟩⟩
          · cases hs2
        · dsimp only [hx5, rI]
          unfold sgnS at he
          split at he
          · cases he
          · rename_i cc
            cases he
            exact ⟨fun _ => ⟨Or.inl rfl, ke _ B1 A4 (u_cl h4 hu40 w6 hX cc) fa (FrT f1 (FrT fA fB)) (F1.tr FA)⟩, fun g => absurd rfl g⟩
      · dsimp only [hx5, rI]
        exact ⟨fun _ => ⟨Or.inl rfl, ke e A1 A4 (u_par h4 hu40 w6 hX) fa (FrT f1 fA) (F1.tr FA)⟩, fun g => absurd rfl g⟩
    · have n4 : ¬ isC (tkq b n q) 40 := by
        rcases hy1 with g | g
        · exact g.2
        · exact absurd (g.1.symm.trans c) (by decide)
      have n2 : (tkq b n q).1 ≠ 2 := by
        rcases hs with g | g
        · exact absurd (g.1.symm.trans c1) (by decide)
        · exact g.2
      have k0 : 0 ≤ knw (tkq b n q) := by
        rcases hun with g | g | g
        · exact absurd g n2
        · exact absurd g n4
        · exact g
      refine val n4 _ ?_
      rw [hkq, if_neg (by omega), show (-1 : Int32) = iI (-1) from rfl, iI_sub]
      refine congrArg iI ?_
      rw [ntc_k (by omega), cw_q (by omega) (by omega)]
      omega
    · have n4 : ¬ isC (tkq b n q) 40 := by
        rcases hy1 with g | g
        · exact g.2
        · exact absurd (g.1.symm.trans c) (by decide)
      have n2 : (tkq b n q).1 = 2 := by
        rcases hs with g | g
        · exact g.2
        · exact absurd g.1 c1
      refine val n4 _ ?_
      rw [show gI P1 0 6 = _ from hk.2.2.1 (Or.inl n2)]
      refine congrArg iI ?_
      rw [ntc_n (by rw [knw_n (by omega)]; omega), cw_0]
  have c45 : ∀ (y1 s kq : Int32), (y1 = 0 ∧ ¬ isC (tkq b n q) 40 ∨ y1 = 1 ∧ isC (tkq b n q) 40) → (s = 1 ∧ (tkq b n q).1 = 2 ∨ s = 0 ∧ (tkq b n q).1 ≠ 2) → kq = iI (if knw (tkq b n q) < 0 then -1 else knw (tkq b n q) - 1) → unt (tkq b n q) → cX6_readUnit_45 (0, 0, 0, 0) (D + 2) j (iI (w : Nat)) y1 s kq P0 P1 P2 P3 P4 R Q := by
    intro y1 s kq hy1 hs hkq hun
    refine gX6_readUnit_45 ?_
    unfold fX6_readUnit_45
    rw [show gI P4 j 5 = _ from hR.1, show (40 : Int32) = iI 40 from rfl, iI_le (by omega) (by omega) (by omega) (by omega), show (6 : Int32) = iI 6 from rfl, iI_le (by omega) (by omega) (by omega) (by omega)]
    refine ⟨fun c => ref (x := 0) (Or.inr (Or.inl (by omega))), fun c => ⟨fun c1 => ?_, fun c1 => ⟨fun c2 => ?_, fun c2 => ?_⟩⟩⟩
    · refine c70 y1 s kq hy1 hs hkq hun (by omega) (fun g => ?_)
      rcases hy1 with g1 | g1
      · exact absurd g g1.2
      · exact absurd (g1.1.symm.trans c1) (by decide)
    · exact c70 y1 s kq hy1 hs hkq hun (by omega) (fun _ => by omega)
    · refine ref (x := 0) (Or.inr (Or.inr ⟨?_, by omega⟩))
      rcases hy1 with g1 | g1
      · exact absurd g1.1 c1
      · exact g1.2
  refine enX6_readUnit ?_
  unfold fX6_readUnit_0
  have main : ∀ y1 : Int32, (y1 = 0 ∧ ¬ isC (tkq b n q) 40 ∨ y1 = 1 ∧ isC (tkq b n q) 40) → (¬ (gI P1 0 4) = 3 → Tri 73 (D + 2) [vR 1 0 0] (P0 :: P1 :: P2 :: P3 :: P4 :: R) (fun r2 h2 => hx5 h2 fun P0_2 P1_2 P2_2 P3_2 P4_2 R_2 => rI r2 fun y2 => (¬ y1 = 0 → cX6_readUnit_45 (0, 0, 0, 0) (D + 2) j (iI (w : Nat)) y1 0 y2 P0_2 P1_2 P2_2 P3_2 P4_2 R_2 Q) ∧ (y1 = 0 → (¬ (0 : Int32) = 0 → cX6_readUnit_45 (0, 0, 0, 0) (D + 2) j (iI (w : Nat)) y1 0 y2 P0_2 P1_2 P2_2 P3_2 P4_2 R_2 Q) ∧ ((0 : Int32) = 0 → (y2 = -1 → Tri 103 (D + 2) [vR 1 0 0] (P0_2 :: P1_2 :: P2_2 :: P3_2 :: P4_2 :: R_2) (fun r3 h3 => hx5 h3 fun P0_3 P1_3 P2_3 P3_3 P4_3 R_3 => rI r3 fun y3 => (y3 = 0 ∨ y3 = 1) ∧ Q (some (vI y3)) (P0_3 :: P1_3 :: P2_3 :: P3_3 :: P4_3 :: R_3))) ∧ (¬ y2 = -1 → cX6_readUnit_45 (0, 0, 0, 0) (D + 2) j (iI (w : Nat)) y1 0 y2 P0_2 P1_2 P2_2 P3_2 P4_2 R_2 Q))))) ∧ ((gI P1 0 4) = 3 → Tri 73 (D + 2) [vR 1 0 0] (P0 :: P1 :: P2 :: P3 :: P4 :: R) (fun r4 h4 => hx5 h4 fun P0_4 P1_4 P2_4 P3_4 P4_4 R_4 => rI r4 fun y4 => (¬ y1 = 0 → cX6_readUnit_45 (0, 0, 0, 0) (D + 2) j (iI (w : Nat)) y1 1 y4 P0_4 P1_4 P2_4 P3_4 P4_4 R_4 Q) ∧ (y1 = 0 → (¬ (1 : Int32) = 0 → cX6_readUnit_45 (0, 0, 0, 0) (D + 2) j (iI (w : Nat)) y1 1 y4 P0_4 P1_4 P2_4 P3_4 P4_4 R_4 Q) ∧ ((1 : Int32) = 0 → (y4 = -1 → Tri 103 (D + 2) [vR 1 0 0] (P0_4 :: P1_4 :: P2_4 :: P3_4 :: P4_4 :: R_4) (fun r5 h5 => hx5 h5 fun P0_5 P1_5 P2_5 P3_5 P4_5 R_5 => rI r5 fun y5 => (y5 = 0 ∨ y5 = 1) ∧ Q (some (vI y5)) (P0_5 :: P1_5 :: P2_5 :: P3_5 :: P4_5 :: R_5))) ∧ (¬ y4 = -1 → cX6_readUnit_45 (0, 0, 0, 0) (D + 2) j (iI (w : Nat)) y1 1 y4 P0_4 P1_4 P2_4 P3_4 P4_4 R_4 Q))))) := by
    intro y1 hy1
    rw [kk.2.1]
    refine ⟨fun c => C_quantityAt hq hk ?_, fun c => C_quantityAt hq hk ?_⟩
    · dsimp only [hx5, rI]
      refine ⟨fun g => ?_, fun g => ⟨fun g1 => absurd rfl g1, fun _ => ⟨fun g2 => ?_, fun g2 => ?_⟩⟩⟩
      · refine c45 y1 0 _ hy1 (Or.inr ⟨rfl, c⟩) rfl ?_
        rcases hy1 with a | a
        · exact absurd a.1 g
        · exact Or.inr (Or.inl a.2)
      · refine ref (x := 0) (Or.inl ?_)
        have k1 : knw (tkq b n q) < 0 := by
          refine Classical.byContradiction (fun k0 => ?_)
          rw [if_neg k0, show (-1 : Int32) = iI (-1) from rfl, iI_eq (by omega) (by omega) (by omega) (by omega)] at g2
          omega
        rintro (a | a | a)
        · exact c a
        · rcases hy1 with a1 | a1
          · exact a1.2 a
          · exact absurd (a1.1.symm.trans g) (by decide)
        · omega
      · refine c45 y1 0 _ hy1 (Or.inr ⟨rfl, c⟩) rfl (Or.inr (Or.inr ?_))
        refine Classical.byContradiction (fun k0 => g2 ?_)
        rw [if_pos (by omega)]; rfl
    · dsimp only [hx5, rI]
      exact ⟨fun g => c45 y1 1 _ hy1 (Or.inl ⟨rfl, c⟩) rfl (Or.inl c), fun g => ⟨fun g1 => c45 y1 1 _ hy1 (Or.inl ⟨rfl, c⟩) rfl (Or.inl c), fun g1 => absurd g1 (by decide)⟩⟩
  refine C_isAtSign (s := 40) (by omega) (by omega) rfl hq hk (fun a1 a2 => ?_) (fun a => ?_)
  · dsimp only [hx5, rI]
    exact main 1 (Or.inr ⟨rfl, a1, a2⟩)
  · dsimp only [hx5, rI]
    exact main 0 (Or.inl ⟨rfl, a⟩)
end RC
