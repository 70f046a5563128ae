section RC2
variable {b : Nat → Int} {n j : Nat}
theorem len_app1 {C : List NT} {a : NT} : (C ++ [a]).length = C.length + 1 := by rw [List.length_append]; rfl
theorem C_sum {w D : Nat} (hn : n ≤ 400) (hU : TR b n j 72 (U_ok b n w) (U_er b n w) w (D + 2)) : TR b n j 71 (S_ok b n w) (S_er b n w) w (D + 3) := by
  intro q u out P0 P1 P2 P3 P4 R Q hq ht hk hR hl hu ko ke
  have loop : ∀ (m q1 u1 i : Nat) (o1 : List NT) (A1 A4 : PS) (Q' : Option AV → List PS → Prop), n - q1 ≤ m → q1 ≤ n → i ≤ q1 → TxC true b n A1 → TkC (tok true b n q1) A1 → RuC j u1 o1 A4 → o1.length ≤ q1 → u1 ≤ 40 → KO b n j o1 (L_ok b n w q1 u1) P0 A1 P2 P3 A4 R Q' → KE j (L_er b n w q1 u1) P0 A1 P2 P3 A4 R Q' → cX6_readSum_15 (0, 0, 0, 0) (D + 2) j (iI (w : Nat)) (iI (i : Nat)) P0 A1 P2 P3 A4 R Q' := by
    intro m
    induction m with
    | zero =>
      intro q1 u1 i o1 A1 A4 Q' hm hq1 hi tA kA RA la ua ko' ke'
      have hend : rk (opc (tkq b n q1)) ≠ 26 := fun g => by
        have := tq_lt b n hq1 (rk26 g).2; omega
      have fin : Q' (some (vI 1)) (P0 :: A1 :: P2 :: P3 :: A4 :: R) := ko' q1 u1 [] A1 A4 (l_end hq1 ua hend) tA kA Fr.rf (by rw [List.append_nil]; exact RA) frR.rf
      have n1 : ¬ isC (tkq b n q1) 43 := fun g => hend (rk_26.mpr (Or.inl (opc_s.1.mpr g)))
      have n2 : ¬ isC (tkq b n q1) 45 := fun g => hend (rk_26.mpr (Or.inr (opc_s.2.1.mpr g)))
      refine gX6_readSum_15 ?_
      unfold fX6_readSum_15
      refine ⟨fun _ => ⟨Or.inr rfl, fin⟩, fun _ => C_isAtSign (s := 43) (by omega) (by omega) rfl hq1 kA (fun a1 a2 => absurd ⟨a1, a2⟩ n1) (fun _ => ?_)⟩
      dsimp only [hx5, rI]
      refine ⟨fun g => absurd rfl g, fun _ => C_isAtSign (s := 45) (by omega) (by omega) rfl hq1 kA (fun a1 a2 => absurd ⟨a1, a2⟩ n2) (fun _ => ?_)⟩
      dsimp only [hx5, rI]
      exact ⟨fun _ => ⟨Or.inr rfl, fin⟩, fun g => absurd rfl g⟩
    | succ m ih =>
      intro q1 u1 i o1 A1 A4 Q' hm hq1 hi tA kA RA la ua ko' ke'
      have fin : rk (opc (tkq b n q1)) ≠ 26 → Q' (some (vI 1)) (P0 :: A1 :: P2 :: P3 :: A4 :: R) := fun hend => ko' q1 u1 [] A1 A4 (l_end hq1 ua hend) tA kA Fr.rf (by rw [List.append_nil]; exact RA) frR.rf
      have go : ∀ s : Int32, rk (opc (tkq b n q1)) = 26 → s = iI (cw (opc (tkq b n q1), 0)) → cX6_readSum_57 (0, 0, 0, 0) (D + 2) j (iI (w : Nat)) (iI (i : Nat)) s P0 A1 P2 P3 A4 R Q' := by
        intro s h26 hs
        have tl := tq_lt b n hq1 (rk26 h26).2
        refine gX6_readSum_57 ?_
        unfold fX6_readSum_57
        refine C_nx hq1 tA kA (rk26 h26).2 (fun B1 tB kB fB => ?_)
        dsimp only [hx5, rV]
        refine hU _ u1 o1 P0 B1 P2 P3 A4 R _ tl.2 tB kB RA (by omega) ua (fun q' u' C C1 C4 hX tC kC fC RC FC => ?_) (fun e C1 C4 hX fa fC FC => ?_)
        · dsimp only [hx5, rI]
          have wf := hX.2
          unfold Wf at wf
          refine ⟨fun _ => ?_, fun g => absurd g (by decide)⟩
          refine C_emit hs RC (by rw [List.length_append]; omega) (fun D4 RD FD => ?_)
          dsimp only [hx5, rV]
          rw [show iI (i : Nat) + 1 = iI ((i + 1 : Nat)) from iI_add (i : Nat) 1]
          refine ih q' u' (i + 1) _ C1 D4 Q' (by omega) (by omega) (by omega) tC kC RD (by rw [len_app1, List.length_append]; omega) (by omega) (fun q2 u2 C2 E1 E4 hX2 tE kE fE RE FE => ?_) (fun e E1 E4 hX2 fa fE FE => ?_)
          · refine ko' q2 u2 _ E1 E4 (l_ok hq1 h26 hX hX2) tE kE (fB.trs (fC.trs fE)) ?_ (FC.tr (FD.tr FE))
            have e : o1 ++ C ++ [(opc (tkq b n q1), 0)] ++ C2 = o1 ++ (C ++ [(opc (tkq b n q1), 0)] ++ C2) := by simp only [List.append_assoc]
            rw [← e]; exact RE
          · exact ke' e E1 E4 (l_b2 h26 hX hX2) fa (FrT fB (FrT fC fE)) (FC.tr (FD.tr FE))
        · dsimp only [hx5, rI]
          exact ⟨fun g => absurd rfl g, fun _ => ⟨Or.inl rfl, ke' e C1 C4 (l_bad h26 hX) fa (FrT fB fC) FC⟩⟩
      refine gX6_readSum_15 ?_
      unfold fX6_readSum_15
      rw [show (400 : Int32) = iI 400 from rfl, iI_le (by omega) (by omega) (by omega) (by omega)]
      refine ⟨fun g => ⟨Or.inr rfl, fin (fun h26 => by have := tq_lt b n hq1 (rk26 h26).2; omega)⟩, fun _ => ?_⟩
      refine C_isAtSign (s := 43) (by omega) (by omega) rfl hq1 kA (fun a1 a2 => ?_) (fun a => ?_)
      · have o := opc_s.1.mpr (show isC (tkq b n q1) 43 from ⟨a1, a2⟩)
        dsimp only [hx5, rI]
        refine ⟨fun _ => ?_, fun g => absurd g (by decide)⟩
        refine C_isAtSign (s := 43) (by omega) (by omega) rfl hq1 kA (fun _ _ => ?_) (fun a' => absurd ⟨a1, a2⟩ a')
        dsimp only [hx5, rI]
        exact ⟨fun g => absurd g (by decide), fun _ => go _ (rk_26.mpr (Or.inl o)) (by rw [o]; rfl)⟩
      · dsimp only [hx5, rI]
        refine ⟨fun g => absurd rfl g, fun _ => ?_⟩
        refine C_isAtSign (s := 45) (by omega) (by omega) rfl hq1 kA (fun a1 a2 => ?_) (fun a' => ?_)
        · have o := opc_s.2.1.mpr (show isC (tkq b n q1) 45 from ⟨a1, a2⟩)
          dsimp only [hx5, rI]
          refine ⟨fun g => absurd g (by decide), fun _ => ?_⟩
          refine C_isAtSign (s := 43) (by omega) (by omega) rfl hq1 kA (fun b1 b2 => absurd ⟨b1, b2⟩ a) (fun _ => ?_)
          dsimp only [hx5, rI]
          exact ⟨fun _ => go _ (rk_26.mpr (Or.inr o)) (by rw [o]; rfl), fun g => absurd rfl g⟩
        · dsimp only [hx5, rI]
          refine ⟨fun _ => ⟨Or.inr rfl, fin (fun h26 => ?_)⟩, fun g => absurd rfl g⟩
          rcases rk_26.mp h26 with g | g
          · exact a (opc_s.1.mp g)
          · exact a' (opc_s.2.1.mp g)
  refine enX6_readSum ?_
  unfold fX6_readSum_0
  refine hU q u out P0 P1 P2 P3 P4 R _ hq ht hk hR hl hu (fun q' u' C C1 C4 hX tC kC fC RC FC => ?_) (fun e C1 C4 hX fa fC FC => ?_)
  · dsimp only [hx5, rI]
    have wf := hX.2
    unfold Wf at wf
    refine ⟨fun _ => ?_, fun g => absurd g (by decide)⟩
    refine loop (n - q') q' u' 0 _ C1 C4 Q (Nat.le_refl _) wf.2.1 (by omega) tC kC RC (by rw [List.length_append]; omega) wf.2.2.2.2.2 (fun q2 u2 C2 E1 E4 hX2 tE kE fE RE FE => ?_) (fun e E1 E4 hX2 fa fE FE => ?_)
    · exact ko q2 u2 _ E1 E4 (s_ok hX hX2) tE kE (fC.trs fE) (by rw [← List.append_assoc]; exact RE) (FC.tr FE)
    · exact ke e E1 E4 (s_b2 hX hX2) fa (FrT fC fE) (FC.tr FE)
  · dsimp only [hx5, rI]
    exact ⟨fun g => absurd rfl g, fun _ => ⟨Or.inl rfl, ke e C1 C4 (s_bad hX) fa fC FC⟩⟩
theorem C_one {w D : Nat} (hn : n ≤ 400) (hw : w ≤ 7) (hS : TR b n j 71 (S_ok b n w) (S_er b n w) w (D + 2)) (hO : w ≤ 6 → TR b n j 69 (O_ok b n (w + 1)) (O_er b n (w + 1)) (w + 1) (D + 2)) : TR b n j 69 (O_ok b n w) (O_er b n w) w (D + 3) := by
  intro q u out P0 P1 P2 P3 P4 R Q hq ht hk hR hl hu ko ke
  refine enX6_readOne ?_
  unfold fX6_readOne_0
  refine C_isAtWord (i := 26) (by omega) rfl hq hk (fun a1 a2 => ?_) (fun a => ?_)
  · have isn : isW (tkq b n q) w_not := ⟨a1, a2⟩
    have tl := tq_lt b n hq (Or.inl a1)
    dsimp only [hx5, rI]
    rw [show (6 : Int32) = iI 6 from rfl, iI_le (by omega) (by omega) (by omega) (by omega)]
    refine ⟨fun g => absurd g (by decide), fun _ => ⟨fun c => ?_, fun c => ?_⟩⟩
    · refine C_nx hq ht hk (Or.inl a1) (fun B1 tB kB fB => ?_)
      dsimp only [hx5, rV]
      rw [show iI (w : Nat) + 1 = iI ((w + 1 : Nat)) from iI_add (w : Nat) 1]
      refine hO (by omega) _ u out P0 B1 P2 P3 P4 R _ tl.2 tB kB hR (by omega) hu (fun q' u' C C1 C4 hX tC kC fC RC FC => ?_) (fun e C1 C4 hX fa fC FC => ?_)
      · dsimp only [hx5, rI]
        have wf := hX.2
        unfold Wf at wf
        refine ⟨fun _ => ?_, fun g => absurd g (by decide)⟩
        refine C_emit (a := (22, 0)) rfl RC (by rw [List.length_append]; omega) (fun D4 RD FD => ?_)
        dsimp only [hx5, rV]
        exact ⟨Or.inr rfl, ko q' u' _ C1 D4 (n_ok hq isn (by omega) hX) tC kC (fB.trs fC) (by rw [← List.append_assoc]; exact RD) (FC.tr FD)⟩
      · dsimp only [hx5, rI]
        exact ⟨fun g => absurd rfl g, fun _ => ⟨Or.inl rfl, ke e C1 C4 (n_bad isn (by omega) hX) fa (FrT fB fC) FC⟩⟩
    · refine C_refuseHere hq hk (fun P1' fa fr => ?_)
      dsimp only [hx5, rI]
      exact ⟨Or.inl rfl, ke _ P1' P4 (n_deep isn (by omega)) fa (FrF fr) frR.rf⟩
  · have nn : ¬ isW (tkq b n q) w_not := a
    dsimp only [hx5, rI]
    refine ⟨fun _ => ?_, fun g => absurd rfl g⟩
    refine hS q u out P0 P1 P2 P3 P4 R _ hq ht hk hR hl hu (fun q' u' C C1 C4 hX tC kC fC RC FC => ?_) (fun e C1 C4 hX fa fC FC => ?_)
    · dsimp only [hx5, rI]
      have wf := hX.2
      unfold Wf at wf
      refine ⟨fun _ => ?_, fun g => absurd g (by decide)⟩
      refine C_comparisonAt wf.2.1 kC (fun h3 => ?_) (fun h3 => ?_)
      · have o := rk_23.mp h3
        have t4 := op_t (b := b) (n := n) (q := q') (by omega)
        have tl := tq_lt b n wf.2.1 t4
        have cn : ¬ (iI (cw (opc (tkq b n q'), 0)) = (0 : Int32)) := by
          rcases o with g | g | g <;> rw [g] <;> decide
        dsimp only [hx5, rI]
        refine ⟨fun _ => ?_, fun g => absurd g cn⟩
        refine C_nx wf.2.1 tC kC t4 (fun B1 tB kB fB => ?_)
        dsimp only [hx5, rV]
        refine hS _ u' _ P0 B1 P2 P3 C4 R _ tl.2 tB kB RC (by rw [List.length_append]; omega) wf.2.2.2.2.2 (fun q2 u2 C2 E1 E4 hX2 tE kE fE RE FE => ?_) (fun e E1 E4 hX2 fa fE FE => ?_)
        · dsimp only [hx5, rI]
          have wf2 := hX2.2
          unfold Wf at wf2
          refine ⟨fun _ => ?_, fun g => absurd g (by decide)⟩
          refine C_emit (a := (opc (tkq b n q'), 0)) rfl RE (by rw [List.length_append, List.length_append]; omega) (fun D4 RD FD => ?_)
          dsimp only [hx5, rV]
          refine ⟨Or.inr rfl, ko q2 u2 _ E1 D4 (o_two nn hX h3 hX2) tE kE (fC.trs (fB.trs fE)) ?_ (FC.tr (FE.tr FD))⟩
          have e : out ++ C ++ C2 ++ [(opc (tkq b n q'), 0)] = out ++ (C ++ C2 ++ [(opc (tkq b n q'), 0)]) := by simp only [List.append_assoc]
          rw [← e]; exact RD
        · dsimp only [hx5, rI]
          exact ⟨fun g => absurd rfl g, fun _ => ⟨Or.inl rfl, ke e E1 E4 (o_b2 nn hX h3 hX2) fa (FrT fC (FrT fB fE)) (FC.tr FE)⟩⟩
      · dsimp only [hx5, rI]
        exact ⟨fun g => absurd rfl g, fun _ => ⟨Or.inr rfl, ko q' u' C C1 C4 (o_one nn hX h3) tC kC fC RC FC⟩⟩
    · dsimp only [hx5, rI]
      exact ⟨fun g => absurd rfl g, fun _ => ⟨Or.inl rfl, ke e C1 C4 (o_bad nn hX) fa fC FC⟩⟩
end RC2
