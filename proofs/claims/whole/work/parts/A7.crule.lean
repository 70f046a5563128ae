/-! ===== RULES: a rule, a text of rules; the class ===== -/
abbrev RLt : Type := Int × List NT
def cds : List RLt → List NT
  | [] => []
  | r :: rs => r.2 ++ cds rs
theorem cds_app (rs : List RLt) (x : RLt) : cds (rs ++ [x]) = cds rs ++ x.2 := by
  induction rs with
  | nil => show x.2 ++ [] = [] ++ x.2; simp
  | cons r rs ih => show r.2 ++ cds (rs ++ [x]) = r.2 ++ cds rs ++ x.2; rw [ih, List.append_assoc]
def RuleR (b : Nat → Int) (n : Nat) (rs : List RLt) (u q : Nat) (o : Except PE (List RLt × Nat × Nat)) : Prop :=
  (6 ≤ rs.length ∧ o = .error (erT (tkq b n q))) ∨ (rs.length < 6 ∧ ((∃ e, wantS true b n w_trust q = .error e ∧ o = .error e) ∨ ∃ q1, wantS true b n w_trust q = .ok q1 ∧ ((∃ e, numS true b n 0 99 q1 = .error e ∧ o = .error e) ∨ ∃ v q2, numS true b n 0 99 q1 = .ok (v, q2) ∧ ((∃ e, wantS true b n w_when q2 = .error e ∧ o = .error e) ∨ ∃ q3, wantS true b n w_when q2 = .ok q3 ∧ ((∃ e, Run b n (0, q3, [], u, cds rs) (.inr e) ∧ o = .error e) ∨ ∃ q4 u4 C, Run b n (0, q3, [], u, cds rs) (.inl (q4, u4, cds rs ++ C)) ∧ q3 ≤ n ∧ q4 ≤ n ∧ isC (tkq b n q4) 59 ∧ o = .ok (rs ++ [(v, C)], u4, (tkq b n q4).2.2.1))))))
def RlsR (b : Nat → Int) (n : Nat) : Nat → List RLt → Nat → Nat → Except PE (List RLt × Nat) → Prop
  | 0, _, _, _, _ => False
  | f + 1, rs, u, q, o => ((tkq b n q).1 = 0 ∧ o = .ok (rs, u)) ∨ ((tkq b n q).1 ≠ 0 ∧ ((∃ e, RuleR b n rs u q (.error e) ∧ o = .error e) ∨ ∃ rs' u' q', RuleR b n rs u q (.ok (rs', u', q')) ∧ RlsR b n f rs' u' q' o))
/-- rules that can be worked out -/
def RsK (rs : List RLt) : Prop := rs.length ≤ 6 ∧ ∀ r ∈ rs, (0 ≤ r.1 ∧ r.1 ≤ 99) ∧ PF r.2 ∧ vals r.2 ≤ 40
def LwC (j : Nat) (rs : List RLt) (u : Nat) (P : PS) : Prop := gI P j 4 = iI (rs.length : Nat) ∧ RuC j u (cds rs) P ∧ ∀ r, r < rs.length → gA P j 1 r = iI ((cds (rs.take (r + 1))).length : Nat) ∧ gA P j 2 r = iI (rs.getD r (0, [])).1
theorem take_l {rs : List RLt} {x : RLt} {k : Nat} (h : k ≤ rs.length) : (rs ++ [x]).take k = rs.take k := List.take_append_of_le_length h
theorem C_endRule {d j u : Nat} {v : Int} {rs : List RLt} {C : List NT} {x : Int32} {P0 P1 P2 P3 P4 : PS} {R : List PS} {Q : Option AV → List PS → Prop} (hx : x = iI v) (h6 : rs.length < 6) (hc : gI P4 j 4 = iI (rs.length : Nat)) (hR : RuC j u (cds rs ++ C) P4) (he : ∀ r, r < rs.length → gA P4 j 1 r = iI ((cds (rs.take (r + 1))).length : Nat) ∧ gA P4 j 2 r = iI (rs.getD r (0, [])).1) (h : ∀ P4', LwC j (rs ++ [(v, C)]) u P4' → FrJ j P4 P4' → Q none (P0 :: P1 :: P2 :: P3 :: P4' :: R)) : Tri 57 d [vR 4 j 0, vI x] (P0 :: P1 :: P2 :: P3 :: P4 :: R) Q := by
  subst hx
  refine enX5_endRule ?_
  unfold fX5_endRule_0
  have vp : vp_in (iI (rs.length : Nat)) 6 := vpk h6 (by omega)
  rw [show gI P4 j 4 = _ from hc, show (6 : Int32) = iI 6 from rfl, iI_le (by omega) (by omega) (by omega) (by omega), iI_cl (a := (rs.length : Nat)) (by omega) (by omega), Int.toNat_natCast, show gI P4 j 6 = _ from hR.2.1, show iI (rs.length : Nat) + 1 = iI ((rs.length + 1 : Nat)) from iI_add _ 1]
  have ln : (rs ++ [(v, C)]).length = rs.length + 1 := by rw [List.length_append]; rfl
  refine ⟨fun c => absurd c (by omega), fun _ => ⟨vp, vp, h _ ⟨?_, ?_, fun r hr => ?_⟩ FrJ.rf.sA.sA.sI⟩⟩
  · rw [gI_sI, if_pos rfl, if_pos rfl, ln]
  · rw [cds_app]
    refine ⟨?_, ?_, fun i hi => ?_⟩
    · rw [gI_sI, if_neg (by decide)]; exact hR.1
    · rw [gI_sI, if_neg (by decide)]; exact hR.2.1
    · show gA (sA (sA P4 j 1 _ _) j 2 _ _) j 0 i = _
      rw [gA_sA, if_neg (by decide), gA_sA, if_neg (by decide)]; exact hR.2.2 i hi
  · rw [ln] at hr
    show gA (sA (sA P4 j 1 _ _) j 2 _ _) j 1 r = _ ∧ gA (sA (sA P4 j 1 _ _) j 2 _ _) j 2 r = _
    have g1 : gA (sA (sA P4 j 1 rs.length (iI ((cds rs ++ C).length : Nat))) j 2 rs.length (iI v)) j 1 r = if r = rs.length then iI ((cds rs ++ C).length : Nat) else gA P4 j 1 r := by rw [gA_sA, if_neg (by decide), gA_sA, if_pos rfl, if_pos rfl]
    have g2 : gA (sA (sA P4 j 1 rs.length (iI ((cds rs ++ C).length : Nat))) j 2 rs.length (iI v)) j 2 r = if r = rs.length then iI v else gA P4 j 2 r := by rw [gA_sA, if_pos rfl, if_pos rfl]; rfl
    rw [g1, g2]
    by_cases c : r = rs.length
    · subst c
      rw [if_pos rfl, if_pos rfl, List.take_of_length_le (by omega), cds_app]
      refine ⟨rfl, congrArg iI ?_⟩
      rw [List.getD_eq_getElem?_getD, List.getElem?_append_right (Nat.le_refl _), Nat.sub_self]; rfl
    · rw [if_neg c, if_neg c, take_l (by omega)]
      have := he r (by omega)
      rw [List.getD_eq_getElem?_getD, List.getElem?_append_left (by omega), ← List.getD_eq_getElem?_getD]
      exact this
theorem C_readRule {d j q u n : Nat} {b : Nat → Int} {rs : List RLt} {P0 P1 P2 P3 P4 : PS} {R : List PS} {Q : Option AV → List PS → Prop} (hn : n ≤ 400) (hq : q ≤ n) (ht : TxC true b n P1) (hk : TkC (tok true b n q) P1) (hL : LwC j rs u P4) (hK : RsK rs) (hl : (cds rs).length ≤ q) (hu : u ≤ 40) (hv : vals (cds rs) ≤ u)
    (hy : ∀ rs' u' q' P1' P4', RuleR b n rs u q (.ok (rs', u', q')) → q < q' → q' ≤ n → RsK rs' → (cds rs').length ≤ q' → u' ≤ 40 → vals (cds rs') ≤ u' → TxC true b n P1' → TkC (tok true b n q') P1' → Fr tsI [7] [] [] P1 P1' → LwC j rs' u' P4' → FrJ j P4 P4' → Q (some (vI 1)) (P0 :: P1' :: P2 :: P3 :: P4' :: R))
    (hno : ∀ e P1' P4', RuleR b n rs u q (.error e) → FaC e P1' → Fr tcI [7] [] [] P1 P1' → FrJ j P4 P4' → Q (some (vI 0)) (P0 :: P1' :: P2 :: P3 :: P4' :: R)) : Tri 66 (d + 60) [vR 11 0 0, vR 1 0 0, vR 4 j 0] (P0 :: P1 :: P2 :: P3 :: P4 :: R) Q := by
  have l6 := hK.1
  refine enX6_readRule ?_
  unfold fX6_readRule_0
  rw [show gI P4 j 4 = _ from hL.1, show (6 : Int32) = iI 6 from rfl, iI_lt (by omega) (by omega) (by omega) (by omega)]
  refine ⟨fun c => ?_, fun c => ?_⟩
  · have c6 : rs.length < 6 := by omega
    refine C_takeWord w_trust (i := 15) (by omega) rfl rfl hq ht hk (fun A1 q1 e1 l1 m1 kA fA => ?_) (fun A1 e e1 fa fA => ?_)
    · have tA := ht.fr fA (by simp) (by simp) (by simp) (by simp)
      dsimp only [hx5, rI]
      refine ⟨fun g => absurd g (by decide), fun _ => ?_⟩
      refine C_takeNumber (lo := 0) (hi := 99) rfl rfl (by omega) (by omega) m1 tA kA (fun B1 v q2 e2 v0 v9 l2 m2 tk _ kB fB => ?_) (fun B1 e e2 fa fB => ?_)
      · have tB := tA.fr fB (by simp) (by simp) (by simp) (by simp)
        dsimp only [hx5, rI]
        refine ⟨fun _ => ?_, fun g => absurd g (by decide)⟩
        refine C_takeWord w_when (i := 16) (by omega) rfl rfl m2 tB kB (fun D1 q3 e3 l3 m3 kD fD => ?_) (fun D1 e e3 fa fD => ?_)
        · have tD := tB.fr fD (by simp) (by simp) (by simp) (by simp)
          dsimp only [hx5, rI]
          refine ⟨fun g => absurd g (by decide), fun _ => ?_⟩
          refine (C_expr (b := b) (j := j) hn 7 0 (by omega) (d + 59) (by omega)).1 q3 u (cds rs) P0 D1 P2 P3 P4 R _ m3 tD kD hL.2.1 (by omega) hu (fun q4 u4 C E1 E4 hX tE kE fE RE FE => ?_) (fun e E1 E4 hX fa fE FE => ?_)
          · have wf := hX.2
            unfold Wf at wf
            dsimp only [hx5, rI]
            refine ⟨fun g => absurd g (by decide), fun _ => ?_⟩
            refine C_takeSign 59 (by omega) (by omega) rfl wf.2.1 tE kE (fun G1 q5 e5 l5 m5 kG fG => ?_) (fun G1 e e5 fa fG => ?_)
            · unfold sgnS at e5
              split at e5
              · rename_i cc
                cases e5
                have tG := tE.fr fG (by simp) (by simp) (by simp) (by simp)
                dsimp only [hx5, rI]
                refine ⟨fun _ => ?_, fun g => absurd g (by decide)⟩
                refine C_endRule (v := v) tk c6 (by rw [FE.2.1]; exact hL.1) RE (fun r hr => by rw [FE.2.2.1, FE.2.2.2]; exact hL.2.2 r hr) (fun H4 LH FH => ?_)
                dsimp only [hx5, rV]
                refine ⟨Or.inr rfl, hy (rs ++ [(v, C)]) u4 _ G1 H4 (Or.inr ⟨c6, Or.inr ⟨q1, e1, Or.inr ⟨v, q2, e2, Or.inr ⟨q3, e3, Or.inr ⟨q4, u4, C, r_ok hX cc, m3, wf.2.1, cc, rfl⟩⟩⟩⟩⟩) (by show q < (tok true b n q4).2.2.1; omega) m5 ⟨by rw [List.length_append]; show rs.length + 1 ≤ 6; omega, fun r hr => ?_⟩ ?_ wf.2.2.2.2.2 ?_ tG kG (fA.trs (fB.trs (fD.trs (fE.trs fG)))) LH (FE.1.tr FH)⟩
                · rcases List.mem_append.mp hr with m | m
                  · exact hK.2 r m
                  · rw [List.mem_singleton] at m
                    subst m
                    exact ⟨⟨v0, v9⟩, wf.2.2.2.1, by show vals C ≤ 40; omega⟩
                · rw [cds_app, List.length_append]; show (cds rs).length + C.length ≤ (tok true b n q4).2.2.1; omega
                · rw [cds_app, vals_app]; show vals (cds rs) + vals C ≤ u4; omega
              · cases e5
            · unfold sgnS at e5
              split at e5
              · cases e5
              · rename_i cc
                cases e5
                dsimp only [hx5, rI]
                exact ⟨fun g => absurd rfl g, fun _ => ⟨Or.inl rfl, hno _ G1 E4 (Or.inr ⟨c6, Or.inr ⟨q1, e1, Or.inr ⟨v, q2, e2, Or.inr ⟨q3, e3, Or.inl ⟨_, r_cl hX cc, rfl⟩⟩⟩⟩⟩) fa (FrT fA (FrT fB (FrT fD (FrT fE fG)))) FE.1⟩⟩
          · dsimp only [hx5, rI]
            exact ⟨fun _ => ⟨Or.inl rfl, hno _ E1 E4 (Or.inr ⟨c6, Or.inr ⟨q1, e1, Or.inr ⟨v, q2, e2, Or.inr ⟨q3, e3, Or.inl ⟨e, r_bad hX, rfl⟩⟩⟩⟩⟩) fa (FrT fA (FrT fB (FrT fD fE))) FE.1⟩, fun g => absurd rfl g⟩
        · dsimp only [hx5, rI]
          exact ⟨fun _ => ⟨Or.inl rfl, hno e D1 P4 (Or.inr ⟨c6, Or.inr ⟨q1, e1, Or.inr ⟨v, q2, e2, Or.inl ⟨e, e3, rfl⟩⟩⟩⟩) fa (FrT fA (FrT fB fD)) FrJ.rf⟩, fun g => absurd rfl g⟩
      · dsimp only [hx5, rI]
        exact ⟨fun g => absurd rfl g, fun _ => ⟨Or.inl rfl, hno e B1 P4 (Or.inr ⟨c6, Or.inr ⟨q1, e1, Or.inl ⟨e, e2, rfl⟩⟩⟩) fa (FrT fA fB) FrJ.rf⟩⟩
    · dsimp only [hx5, rI]
      exact ⟨fun _ => ⟨Or.inl rfl, hno e A1 P4 (Or.inr ⟨c6, Or.inl ⟨e, e1, rfl⟩⟩) fa fA FrJ.rf⟩, fun g => absurd rfl g⟩
  · refine C_refuseHere hq hk (fun A1 fa fr => ?_)
    dsimp only [hx5, rI]
    exact ⟨Or.inl rfl, hno _ A1 P4 (Or.inl ⟨by omega, rfl⟩) fa (FrF fr) FrJ.rf⟩
