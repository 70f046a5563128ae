/-! ===== the class: a BOOK is read ===== -/
theorem C_r16 {d j : Nat} {b : Nat → Int} {n : Nat} {P0 PA PB P3 P4 P5 P6 P7 P8 P9 PC : PS} {R : List PS} {Q : Option AV → List PS → Prop} (hD : DgC j PB) : ∀ (F i : Nat) (a : BA) (q : Nat) (A B C : PS), n - q < F → 2 * i ≤ q → q ≤ n → TxC false b n A → TkC (tok false b n q) A → AcC j a B C → Fr tsI [7] [] [] PA A → FrB j PB B → Fr [0] [] [] [] PC C →
    (∀ a' A' B' C', bookS b n F a q = .ok a' → Fr tsI [7] [] [] PA A' → TdC j a'.2.1 B' → SsC j a'.1 B' → LnC j a'.1 B' → DgC j B' → FrJ j PB B' → Fr [0] [] [] [] PC C' → Q (some (vI (iI 1))) (P0 :: A' :: B' :: P3 :: P4 :: P5 :: P6 :: P7 :: P8 :: P9 :: C' :: R)) →
    (∀ e A' B' C', bookS b n F a q = .error e → FaC e A' → Fr tcI [7] [] [] PA A' → FrB j PB B' → Fr [0] [] [] [] PC C' → Q (some (vI (iI 0))) (P0 :: A' :: B' :: P3 :: P4 :: P5 :: P6 :: P7 :: P8 :: P9 :: C' :: R)) →
    cX1_read_16 (0, 0, 0, 0) (d + 5) j (iI (i : Nat)) P0 A B P3 P4 P5 P6 P7 P8 P9 C R Q := by
  intro F
  induction F with
  | zero => intro i a q A B C h; omega
  | succ F ih =>
    intro i a q A B C hF hi hq ht hk hA fA fB fC hy hn
    have hn15 := ht.2.2.1
    refine gX1_read_16 ?_
    unfold fX1_read_16
    rw [show (1500 : Int32) = iI 1500 from rfl, iI_le (by omega) (by omega) (by omega) (by omega), (hk.k hq).2.2.2.2]
    refine ⟨fun c => absurd c (by omega), fun _ => ⟨fun c => ?_, fun c => ?_⟩⟩
    · refine C_measure hA.2.1 hA.1 (hD.fr fB) (fun B' S' T' L' D' J' => ?_)
      exact ⟨Or.inr rfl, hy a A B' C (by unfold bookS; rw [if_pos c]) fA T' S' L' D' (fB.1.tr J') fC⟩
    · have hb : bookS b n (F + 1) a q = (lineS b n a q >>= fun aq => sgnS false b n 59 aq.2 >>= fun q2 => bookS b n F aq.1 q2) := by
        rw [bookS, if_neg c]
      rw [hb] at hy hn
      refine C_readLine hq ht hk hA (fun a1 q1 A1 B1 C1 e1 l1 l1' t1 k1 f1 A1' J1 g1 => ?_) (fun e A1 B1 C1 e1 fa f1 J1 g1 => ?_)
      · dsimp only [hx11, rI]
        refine ⟨fun c => absurd c (by decide), fun _ => ?_⟩
        rw [e1] at hy hn
        refine C_takeSign 59 (by omega) (by omega) rfl l1' t1 k1 (fun A2 q2 e2 l2 l2' k2 f2 => ?_) (fun A2 e e2 fa f2 => ?_)
        · dsimp only [hx11, rI]
          refine ⟨fun _ => ?_, fun c => absurd c (by decide)⟩
          rw [show (1 : Int32) = iI 1 from rfl, iI_add]
          refine ih (i + 1) a1 q2 A2 B1 C1 (by omega) (by omega) l2' (t1.fr f2 (by simp [tsI]) (by simp [tsI]) (by simp) (by simp)) k2 A1' ((fA.trs f1).trs f2) (fB.tr J1) (fC.trs g1) (fun a' A' B' C' e3 => hy a' A' B' C' ?_) (fun e A' B' C' e3 => hn e A' B' C' ?_)
          · show (sgnS false b n 59 q1 >>= _) = _
            rw [e2]; exact e3
          · show (sgnS false b n 59 q1 >>= _) = _
            rw [e2]; exact e3
        · dsimp only [hx11, rI]
          refine ⟨fun c => absurd rfl c, fun _ => ⟨Or.inl rfl, hn e A2 B1 C1 ?_ fa ((fA.trs f1).te f2) (fB.tr J1) (fC.trs g1)⟩⟩
          show (sgnS false b n 59 q1 >>= _) = _
          rw [e2]; rfl
      · dsimp only [hx11, rI]
        refine ⟨fun _ => ⟨Or.inl rfl, hn e A1 B1 C1 (by rw [e1]; rfl) fa (fA.te f1) (fB.tr J1) (fC.trs g1)⟩, fun c => absurd rfl c⟩
abbrev rdI : List Nat := [2, 3, 4, 5, 6, 8, 9, 10, 11]
theorem C_readBook {d j : Nat} {b : Nat → Int} {n : Nat} {P0 P1 P2 P3 P4 P5 P6 P7 P8 P9 P10 : PS} {R : List PS} {Q : Option AV → List PS → Prop} (hl : gI P1 0 1 = iI n) (hn15 : n ≤ 1500) (hb : ∀ i, i < n → gA P1 0 0 i = iI (sb (b i)) ∧ 0 ≤ b i ∧ b i < 256) (ho : OwC P1) (hD : DgC j P2)
    (hy : ∀ a P1' P2' P10', bookS b n (n + 1) BA0 0 = .ok a → FaC (0, -1) P1' → Fr rdI [7] [] [] P1 P1' → TdC j a.2.1 P2' → SsC j a.1 P2' → LnC j a.1 P2' → DgC j P2' → FrJ j P2 P2' → Fr [0] [] [] [] P10 P10' → Q (some (vI (iI 1))) (P0 :: P1' :: P2' :: P3 :: P4 :: P5 :: P6 :: P7 :: P8 :: P9 :: P10' :: R))
    (hn : ∀ e P1' P2' P10', bookS b n (n + 1) BA0 0 = .error e → FaC e P1' → Fr rdI [7] [] [] P1 P1' → DgC j P2' → FrJ j P2 P2' → Fr [0] [] [] [] P10 P10' → Q (some (vI (iI 0))) (P0 :: P1' :: P2' :: P3 :: P4 :: P5 :: P6 :: P7 :: P8 :: P9 :: P10' :: R)) :
    Tri 15 (d + 6) [vR 10 0 0, vR 1 0 0, vR 2 j 0] (P0 :: P1 :: P2 :: P3 :: P4 :: P5 :: P6 :: P7 :: P8 :: P9 :: P10 :: R) Q := by
  refine enX1_read ?_
  unfold fX1_read_0
  refine C_clear (fun B S' T' J' => ?_)
  dsimp only [hx11, rV]
  refine C_open (r := false) rfl hl hn15 hb ho (fun A t1 k1 fa f1 => ?_)
  dsimp only [hx11, rV]
  have f1' : Fr rdI [7] [] [] P1 A := f1.mono (by simp [rdI]) (by simp) (by simp) (by simp)
  refine C_r16 (PA := A) (PB := P2) (PC := P10) hD (n + 1) 0 BA0 0 A B _ (by omega) (by omega) (by omega) t1 k1 ⟨T', S', fun i hi _ => ⟨fun _ => rfl, fun _ => bt_0 i hi⟩⟩ Fr.rf J' (Fr.rf.sI (by simp)) (fun a A' B' C' e f2 T2 S2 L2 D2 J2 g2 => ?_) (fun e A' B' C' e1 fa2 f2 J2 g2 => ?_)
  · refine hy a A' B' C' e ⟨?_, ?_⟩ (f1'.trs (f2.mono (by simp [rdI, tsI]) (by simp) (by simp) (by simp))) T2 S2 L2 D2 J2 g2
    · rw [f2.2.1 _ (by simp [tsI])]; exact fa.1
    · rw [f2.2.1 _ (by simp [tsI])]; exact fa.2
  · exact hn e A' B' C' e1 fa2 (f1'.trs (f2.mono (by simp [rdI, tcI]) (by simp) (by simp) (by simp))) (hD.fr J2) J2.1 g2
