section RC3
variable {b : Nat → Int} {n j : Nat}
theorem C_both {w D : Nat} (hn : n ≤ 400) (hO : TR b n j 69 (O_ok b n w) (O_er b n w) w (D + 2)) : TR b n j 68 (B_ok b n w) (B_er b n w) w (D + 3) := by
  intro q u out P0 P1 P2 P3 P4 R Q hq ht hk hR hl hu ko ke
  have loop : ∀ (m q1 u1 i : Nat) (o1 : List NT) (A1 A4 : PS) (Q' : Option AV → List PS → Prop), n - q1 ≤ m → q1 ≤ n → i ≤ q1 → TxC true b n A1 → TkC (tok true b n q1) A1 → RuC j u1 o1 A4 → o1.length ≤ q1 → u1 ≤ 40 → KO b n j o1 (M_ok b n w q1 u1) P0 A1 P2 P3 A4 R Q' → KE j (M_er b n w q1 u1) P0 A1 P2 P3 A4 R Q' → cX6_readBoth_15 (0, 0, 0, 0) (D + 2) j (iI (w : Nat)) (iI (i : Nat)) P0 A1 P2 P3 A4 R Q' := by
    intro m
    induction m with
    | zero =>
      intro q1 u1 i o1 A1 A4 Q' hm hq1 hi tA kA RA la ua ko' ke'
      have hend : opc (tkq b n q1) ≠ 21 := fun g => by
        have := tq_lt b n hq1 (op_t (b := b) (n := n) (q := q1) (by omega)); omega
      have fin : Q' (some (vI 1)) (P0 :: A1 :: P2 :: P3 :: A4 :: R) := ko' q1 u1 [] A1 A4 (m_end hq1 ua hend) tA kA Fr.rf (by rw [List.append_nil]; exact RA) frR.rf
      refine gX6_readBoth_15 ?_
      unfold fX6_readBoth_15
      refine ⟨fun _ => ⟨Or.inr rfl, fin⟩, fun _ => C_isAtWord (i := 24) (by omega) rfl hq1 kA (fun a1 a2 => absurd (opc_21.mpr (show isW (tkq b n q1) w_and from ⟨a1, a2⟩)) hend) (fun _ => ?_)⟩
      dsimp only [hx5, rI]
      exact ⟨fun _ => ⟨Or.inr rfl, fin⟩, fun g => absurd rfl g⟩
    | succ m ih =>
      intro q1 u1 i o1 A1 A4 Q' hm hq1 hi tA kA RA la ua ko' ke'
      have fin : opc (tkq b n q1) ≠ 21 → Q' (some (vI 1)) (P0 :: A1 :: P2 :: P3 :: A4 :: R) := fun hend => ko' q1 u1 [] A1 A4 (m_end hq1 ua hend) tA kA Fr.rf (by rw [List.append_nil]; exact RA) frR.rf
      refine gX6_readBoth_15 ?_
      unfold fX6_readBoth_15
      rw [show (400 : Int32) = iI 400 from rfl, iI_le (by omega) (by omega) (by omega) (by omega)]
      refine ⟨fun g => ⟨Or.inr rfl, fin (fun h => by have := tq_lt b n hq1 (op_t (b := b) (n := n) (q := q1) (by omega)); omega)⟩, fun _ => ?_⟩
      refine C_isAtWord (i := 24) (by omega) rfl hq1 kA (fun a1 a2 => ?_) (fun a => ?_)
      · have o := opc_21.mpr (show isW (tkq b n q1) w_and from ⟨a1, a2⟩)
        have tl := tq_lt b n hq1 (Or.inl a1)
        dsimp only [hx5, rI]
        refine ⟨fun g => absurd g (by decide), fun _ => ?_⟩
        refine C_nx hq1 tA kA (Or.inl a1) (fun B1 tB kB fB => ?_)
        dsimp only [hx5, rV]
        refine hO _ u1 o1 P0 B1 P2 P3 A4 R _ tl.2 tB kB RA (by omega) ua (fun q' u' C C1 C4 hX tC kC fC RC FC => ?_) (fun e C1 C4 hX fa fC FC => ?_)
        · dsimp only [hx5, rI]
          have wf := hX.2
          unfold Wf at wf
          refine ⟨fun _ => ?_, fun g => absurd g (by decide)⟩
          refine C_emit (a := (21, 0)) rfl RC (by rw [List.length_append]; omega) (fun D4 RD FD => ?_)
          dsimp only [hx5, rV]
          rw [show iI (i : Nat) + 1 = iI ((i + 1 : Nat)) from iI_add (i : Nat) 1]
          refine ih q' u' (i + 1) _ C1 D4 Q' (by omega) (by omega) (by omega) tC kC RD (by rw [len_app1, List.length_append]; omega) (by omega) (fun q2 u2 C2 E1 E4 hX2 tE kE fE RE FE => ?_) (fun e E1 E4 hX2 fa fE FE => ?_)
          · refine ko' q2 u2 _ E1 E4 (m_ok hq1 o hX hX2) tE kE (fB.trs (fC.trs fE)) ?_ (FC.tr (FD.tr FE))
            have e : o1 ++ C ++ [(21, 0)] ++ C2 = o1 ++ (C ++ [(21, 0)] ++ C2) := by simp only [List.append_assoc]
            rw [← e]; exact RE
          · exact ke' e E1 E4 (m_b2 o hX hX2) fa (FrT fB (FrT fC fE)) (FC.tr (FD.tr FE))
        · dsimp only [hx5, rI]
          exact ⟨fun g => absurd rfl g, fun _ => ⟨Or.inl rfl, ke' e C1 C4 (m_bad o hX) fa (FrT fB fC) FC⟩⟩
      · dsimp only [hx5, rI]
        exact ⟨fun _ => ⟨Or.inr rfl, fin (fun h => a (opc_21.mp h))⟩, fun g => absurd rfl g⟩
  refine enX6_readBoth ?_
  unfold fX6_readBoth_0
  refine hO q u out P0 P1 P2 P3 P4 R _ hq ht hk hR hl hu (fun q' u' C C1 C4 hX tC kC fC RC FC => ?_) (fun e C1 C4 hX fa fC FC => ?_)
  · dsimp only [hx5, rI]
    have wf := hX.2
    unfold Wf at wf
    refine ⟨fun _ => ?_, fun g => absurd g (by decide)⟩
    refine loop (n - q') q' u' 0 _ C1 C4 Q (Nat.le_refl _) wf.2.1 (by omega) tC kC RC (by rw [List.length_append]; omega) wf.2.2.2.2.2 (fun q2 u2 C2 E1 E4 hX2 tE kE fE RE FE => ?_) (fun e E1 E4 hX2 fa fE FE => ?_)
    · exact ko q2 u2 _ E1 E4 (b_ok hX hX2) tE kE (fC.trs fE) (by rw [← List.append_assoc]; exact RE) (FC.tr FE)
    · exact ke e E1 E4 (b_b2 hX hX2) fa (FrT fC fE) (FC.tr FE)
  · dsimp only [hx5, rI]
    exact ⟨fun g => absurd rfl g, fun _ => ⟨Or.inl rfl, ke e C1 C4 (b_bad hX) fa fC FC⟩⟩
theorem C_either {w D : Nat} (hn : n ≤ 400) (hB : TR b n j 68 (B_ok b n w) (B_er b n w) w (D + 2)) : TR b n j 67 (E_ok b n w) (E_er b n w) w (D + 3) := by
  intro q u out P0 P1 P2 P3 P4 R Q hq ht hk hR hl hu ko ke
  have loop : ∀ (m q1 u1 i : Nat) (o1 : List NT) (A1 A4 : PS) (Q' : Option AV → List PS → Prop), n - q1 ≤ m → q1 ≤ n → i ≤ q1 → TxC true b n A1 → TkC (tok true b n q1) A1 → RuC j u1 o1 A4 → o1.length ≤ q1 → u1 ≤ 40 → KO b n j o1 (N_ok b n w q1 u1) P0 A1 P2 P3 A4 R Q' → KE j (N_er b n w q1 u1) P0 A1 P2 P3 A4 R Q' → cX6_readEither_15 (0, 0, 0, 0) (D + 2) j (iI (w : Nat)) (iI (i : Nat)) P0 A1 P2 P3 A4 R Q' := by
    intro m
    induction m with
    | zero =>
      intro q1 u1 i o1 A1 A4 Q' hm hq1 hi tA kA RA la ua ko' ke'
      have hend : opc (tkq b n q1) ≠ 20 := fun g => by
        have := tq_lt b n hq1 (op_t (b := b) (n := n) (q := q1) (by omega)); omega
      have fin : Q' (some (vI 1)) (P0 :: A1 :: P2 :: P3 :: A4 :: R) := ko' q1 u1 [] A1 A4 (e_end hq1 ua hend) tA kA Fr.rf (by rw [List.append_nil]; exact RA) frR.rf
      refine gX6_readEither_15 ?_
      unfold fX6_readEither_15
      refine ⟨fun _ => ⟨Or.inr rfl, fin⟩, fun _ => C_isAtWord (i := 25) (by omega) rfl hq1 kA (fun a1 a2 => absurd (opc_20.mpr (show isW (tkq b n q1) w_or from ⟨a1, a2⟩)) hend) (fun _ => ?_)⟩
      dsimp only [hx5, rI]
      exact ⟨fun _ => ⟨Or.inr rfl, fin⟩, fun g => absurd rfl g⟩
    | succ m ih =>
      intro q1 u1 i o1 A1 A4 Q' hm hq1 hi tA kA RA la ua ko' ke'
      have fin : opc (tkq b n q1) ≠ 20 → Q' (some (vI 1)) (P0 :: A1 :: P2 :: P3 :: A4 :: R) := fun hend => ko' q1 u1 [] A1 A4 (e_end hq1 ua hend) tA kA Fr.rf (by rw [List.append_nil]; exact RA) frR.rf
      refine gX6_readEither_15 ?_
      unfold fX6_readEither_15
      rw [show (400 : Int32) = iI 400 from rfl, iI_le (by omega) (by omega) (by omega) (by omega)]
      refine ⟨fun g => ⟨Or.inr rfl, fin (fun h => by have := tq_lt b n hq1 (op_t (b := b) (n := n) (q := q1) (by omega)); omega)⟩, fun _ => ?_⟩
      refine C_isAtWord (i := 25) (by omega) rfl hq1 kA (fun a1 a2 => ?_) (fun a => ?_)
      · have o := opc_20.mpr (show isW (tkq b n q1) w_or from ⟨a1, a2⟩)
        have tl := tq_lt b n hq1 (Or.inl a1)
        dsimp only [hx5, rI]
        refine ⟨fun g => absurd g (by decide), fun _ => ?_⟩
        refine C_nx hq1 tA kA (Or.inl a1) (fun B1 tB kB fB => ?_)
        dsimp only [hx5, rV]
        refine hB _ u1 o1 P0 B1 P2 P3 A4 R _ tl.2 tB kB RA (by omega) ua (fun q' u' C C1 C4 hX tC kC fC RC FC => ?_) (fun e C1 C4 hX fa fC FC => ?_)
        · dsimp only [hx5, rI]
          have wf := hX.2
          unfold Wf at wf
          refine ⟨fun _ => ?_, fun g => absurd g (by decide)⟩
          refine C_emit (a := (20, 0)) rfl RC (by rw [List.length_append]; omega) (fun D4 RD FD => ?_)
          dsimp only [hx5, rV]
          rw [show iI (i : Nat) + 1 = iI ((i + 1 : Nat)) from iI_add (i : Nat) 1]
          refine ih q' u' (i + 1) _ C1 D4 Q' (by omega) (by omega) (by omega) tC kC RD (by rw [len_app1, List.length_append]; omega) (by omega) (fun q2 u2 C2 E1 E4 hX2 tE kE fE RE FE => ?_) (fun e E1 E4 hX2 fa fE FE => ?_)
          · refine ko' q2 u2 _ E1 E4 (el_ok hq1 o hX hX2) tE kE (fB.trs (fC.trs fE)) ?_ (FC.tr (FD.tr FE))
            have e : o1 ++ C ++ [(20, 0)] ++ C2 = o1 ++ (C ++ [(20, 0)] ++ C2) := by simp only [List.append_assoc]
            rw [← e]; exact RE
          · exact ke' e E1 E4 (el_b2 o hX hX2) fa (FrT fB (FrT fC fE)) (FC.tr (FD.tr FE))
        · dsimp only [hx5, rI]
          exact ⟨fun g => absurd rfl g, fun _ => ⟨Or.inl rfl, ke' e C1 C4 (el_bad o hX) fa (FrT fB fC) FC⟩⟩
      · dsimp only [hx5, rI]
        exact ⟨fun _ => ⟨Or.inr rfl, fin (fun h => a (opc_20.mp h))⟩, fun g => absurd rfl g⟩
  refine enX6_readEither ?_
  unfold fX6_readEither_0
  refine hB q u out P0 P1 P2 P3 P4 R _ hq ht hk hR hl hu (fun q' u' C C1 C4 hX tC kC fC RC FC => ?_) (fun e C1 C4 hX fa fC FC => ?_)
  · dsimp only [hx5, rI]
    have wf := hX.2
    unfold Wf at wf
    refine ⟨fun _ => ?_, fun g => absurd g (by decide)⟩
    refine loop (n - q') q' u' 0 _ C1 C4 Q (Nat.le_refl _) wf.2.1 (by omega) tC kC RC (by rw [List.length_append]; omega) wf.2.2.2.2.2 (fun q2 u2 C2 E1 E4 hX2 tE kE fE RE FE => ?_) (fun e E1 E4 hX2 fa fE FE => ?_)
    · exact ko q2 u2 _ E1 E4 (ee_ok hX hX2) tE kE (fC.trs fE) (by rw [← List.append_assoc]; exact RE) (FC.tr FE)
    · exact ke e E1 E4 (ee_b2 hX hX2) fa (FrT fC fE) (FC.tr FE)
  · dsimp only [hx5, rI]
    exact ⟨fun g => absurd rfl g, fun _ => ⟨Or.inl rfl, ke e C1 C4 (ee_bad hX) fa fC FC⟩⟩
theorem C_expr (hn : n ≤ 400) : ∀ m w, w + m = 7 → ∀ D, 5 * m + 10 ≤ D → TR b n j 67 (E_ok b n w) (E_er b n w) w D ∧ TR b n j 69 (O_ok b n w) (O_er b n w) w D := by
  intro m
  induction m with
  | zero =>
    intro w hw D hD
    have one : ∀ x, TR b n j 69 (O_ok b n w) (O_er b n w) w (x + 5) := fun x => C_one hn (by omega) (C_sum hn (C_unit hn (by omega) (fun h => by omega))) (fun h => by omega)
    have h1 := C_either hn (C_both hn (one (D - 7)))
    have h2 := one (D - 5)
    rw [show D - 7 + 5 + 1 + 1 = D by omega] at h1
    rw [show D - 5 + 5 = D by omega] at h2
    exact ⟨h1, h2⟩
  | succ m ih =>
    intro w hw D hD
    have one : ∀ x, 5 * m + 10 ≤ x + 2 → TR b n j 69 (O_ok b n w) (O_er b n w) w (x + 5) := fun x hx => C_one hn (by omega) (C_sum hn (C_unit hn (by omega) (fun _ => (ih (w + 1) (by omega) (x + 2) hx).1))) (fun _ => (ih (w + 1) (by omega) (x + 4) (by omega)).2)
    have h1 := C_either hn (C_both hn (one (D - 7) (by omega)))
    have h2 := one (D - 5) (by omega)
    rw [show D - 7 + 5 + 1 + 1 = D by omega] at h1
    rw [show D - 5 + 5 = D by omega] at h2
    exact ⟨h1, h2⟩
end RC3
