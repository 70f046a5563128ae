/-! ===== BOOK, the class ===== -/
theorem FpC_0 {j : Nat} {P : PS} (h : ∀ i, i < 16 → gA P j 3 i = iI 0) : FpC j (fun _ _ => false) P := fun c r hc hr => by
  rw [h r hr]
  exact ⟨fun _ => rfl, fun _ => bt_0 c (by omega)⟩
theorem FrJ.sO {j a : Nat} {v : Option Nat} {P P' : PS} (h : FrJ j P P') : FrJ j P (sO P' j a v) := ⟨h.1, fun j' hj => ⟨(h.2 j' hj).1, (h.2 j' hj).2.1, (h.2 j' hj).2.2.1, (h.2 j' hj).2.2.2.1, fun a' => by rw [gO_sO]; rw [if_neg hj]; split <;> exact (h.2 j' hj).2.2.2.2.1 a', (h.2 j' hj).2.2.2.2.2⟩⟩
/-- the story is empty, and no box is kept -/
def StZ (t : Int32) (P P' : PS) : Prop := gN P' = gN P ∧ gI P' 0 4 = iI 0 ∧ gI P' 0 6 = iI 0 ∧ gI P' 0 5 = t ∧ FpC 0 (fun _ _ => false) P' ∧ ∀ i, i < 3 → gI P' (i + 1) 7 = 0
theorem C_book {d j k r : Nat} {b : Nat → Int} {n : Nat} {P0 P1 P2 P3 P4 P5 P6 P7 P8 P9 P10 P11 P12 : PS} {R : List PS} {Q : Option AV → List PS → Prop} (ht : TpC b n P1) (ho : OwC P1) (hk : gO P12 0 11 = some k) (hj : gO P12 0 12 = some j) (hr : gO P12 0 13 = some r) (hb : ∀ i, i < 3 → gR P12 0 8 i = some (i + 1)) (hD : DgC j P2)
    (hy : ∀ a P1' P2' P4' P5' P6' P10', bookS b n (n + 1) BA0 0 = .ok a → FaC (0, -1) P1' → gI P1' 0 1 = iI 0 → Fr (1 :: rdI) [7] [] [] P1 P1' → TdC j a.2.1 P2' → SsC j a.1 P2' → LnC j a.1 P2' → DgC j P2' → FrJ j P2 P2' → (gI P4' r 4 = iI 0 ∧ gI P4' r 5 = iI 0 ∧ gI P4' r 6 = iI 0) → FrJ r P4 P4' → (gI P5' 0 10 = iI 0 ∧ gI P5' 0 11 = iI 0 ∧ gI P5' 0 12 = iI 0 ∧ gI P5' 0 13 = iI 0) → gN P5' = gN P5 → StZ (gI P6 0 5) P6 P6' → gN P10' = gN P10 → Q (some (vI (iI a.1.length))) (P0 :: P1' :: P2' :: P3 :: P4' :: P5' :: P6' :: P7 :: P8 :: P9 :: P10' :: P11 :: (sO (sO P12 0 11 (some j)) 0 12 (some k)) :: R))
    (hn : ∀ e P1' P2' P10', bookS b n (n + 1) BA0 0 = .error e → FaC e P1' → gI P1' 0 1 = iI 0 → Fr (1 :: rdI) [7] [] [] P1 P1' → DgC j P2' → FrJ j P2 P2' → gN P10' = gN P10 → Q (some (vI (iI (-1)))) (P0 :: P1' :: P2' :: P3 :: P4 :: P5 :: P6 :: P7 :: P8 :: P9 :: P10' :: P11 :: P12 :: R)) :
    Tri 126 (d + 7) [vR 12 0 0] (P0 :: P1 :: P2 :: P3 :: P4 :: P5 :: P6 :: P7 :: P8 :: P9 :: P10 :: P11 :: P12 :: R) Q := by
  refine enX11_book ?_
  unfold fX11_book_0
  rw [hj]
  simp only [oM]
  refine C_readBook ht.1 ht.2.1 ht.2.2 ho hD (fun a A B C e fa f1 T S L D J g => ?_) (fun e A B C e1 fa f1 D J g => ?_)
  · dsimp only [hx13, rI]
    rw [hk, hj]
    refine ⟨fun _ => ?_, fun c => absurd c (by decide)⟩
    dsimp only
    refine C_forget (fun A5 s1 s2 s3 s4 f5 => ?_)
    dsimp only [hx13, rV]
    refine C_storyClear (fun A6 t1 t2 t3 t4 t5 f6 t6 t7 => ?_)
    dsimp only [hx13, rV]
    rw [show gO (sO (sO P12 0 11 (some j)) 0 12 (some k)) 0 13 = some r from hr]
    dsimp only
    refine C_rulesClear (fun A4 r1 r2 r3 f4 => ?_)
    dsimp only [hx13, rV]
    have hb' : ∀ i, i < 3 → gR (sO (sO P12 0 11 (some j)) 0 12 (some k)) 0 8 i = some (i + 1) := hb
    have hs' : gO (sO (sO P12 0 11 (some j)) 0 12 (some k)) 0 11 = some j := rfl
    have fin := fun A6' q => hy a (sI A 0 1 0) B A4 A5 A6' C e ⟨fa.1, fa.2⟩ rfl ((f1.mono (by simp [rdI]) (by simp) (by simp) (by simp)).sI (by simp)) T S L D J ⟨r1, r2, r3⟩ f4 ⟨s1, s2, s3, s4⟩ f5.1 q g.1
    generalize sO (sO P12 0 11 (some j)) 0 12 (some k) = P12' at *
    have key : ∀ m i : Nat, ∀ B6 : PS, i + m = 3 → gN B6 = gN P6 → (∀ a, gI B6 0 a = gI A6 0 a) → (∀ a i, gA B6 0 a i = gA A6 0 a i) → (∀ q, q < i → gI B6 (q + 1) 7 = 0) → cX11_book_71 (0, 0, 0, 0) (d + 6) (iI (i : Nat)) P0 (sI A 0 1 0) B P3 A4 A5 B6 P7 P8 P9 C P11 P12' R Q := by
      intro m
      induction m with
      | zero =>
        intro i B6 hi hg h1 h2 h3
        refine gX11_book_71 ?_
        unfold fX11_book_71
        rw [show (3 : Int32) = iI 3 from rfl, iI_le (by omega) (by omega) (by omega) (by omega), hs']
        refine ⟨fun _ => ?_, fun c => absurd (by omega) c⟩
        dsimp only [oM]
        rw [S.1]
        exact fin B6 ⟨hg, by rw [h1]; exact t1, by rw [h1]; exact t2, by rw [h1]; exact t3, FpC_0 (fun i hi => by rw [h2]; exact t5 i hi), fun q hq => h3 q (by omega)⟩
      | succ m ih =>
        intro i B6 hi hg h1 h2 h3
        refine gX11_book_71 ?_
        unfold fX11_book_71
        rw [show (3 : Int32) = iI 3 from rfl, iI_le (by omega) (by omega) (by omega) (by omega), iI_in (by omega) (by omega), iI_cl (by omega) (by omega), Int.toNat_natCast, hb' i (by omega)]
        refine ⟨fun c => absurd c (by omega), fun _ => ⟨by omega, ?_⟩⟩
        dsimp only [oM]
        refine ⟨Or.inl rfl, ?_⟩
        rw [show (1 : Int32) = iI 1 from rfl, iI_add]
        refine ih (i + 1) _ (by omega) hg (fun a => ?_) h2 (fun q hq => ?_)
        · rw [gI_sI, if_neg (show ¬ 0 = i + 1 by omega)]
          split <;> exact h1 a
        · rw [gI_sI, if_pos rfl]
          by_cases c : q = i
          · rw [if_pos (by omega)]
          · rw [if_neg (by omega)]; exact h3 q (by omega)
    exact key 3 0 A6 (by omega) f6.1 (fun _ => rfl) (fun _ _ => rfl) (fun q hq => absurd hq (Nat.not_lt_zero q))
  · dsimp only [hx13, rI]
    refine ⟨fun c => absurd rfl c, fun _ => ?_⟩
    exact hn e _ B C e1 fa rfl ((f1.mono (by simp [rdI]) (by simp) (by simp) (by simp)).sI (by simp)) D J g.1
