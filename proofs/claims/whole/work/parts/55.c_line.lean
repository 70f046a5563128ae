/-! ===== the class: a line of a BOOK ===== -/
def bt (x v : Int32) : Prop := (((x).toUInt32 >>> ((v).toUInt32 &&& Int32.toUInt32 31)).toInt32 &&& (1 : Int32)) = 0
theorem bt_amt : ∀ i, i < 27 → (((iI (i : Nat)).toUInt32 &&& Int32.toUInt32 31).toBitVec % 32).toNat = i := by decide +kernel
theorem bt_one : ∀ i, i < 27 → ∀ k, k < 27 → (((1 : Int32) <<< ((iI (i : Nat)) &&& 31)).toBitVec).getLsbD k = decide (k = i) := by decide +kernel
theorem bt_iff (x : Int32) {i : Nat} (hi : i < 27) : bt x (iI i) ↔ x.toBitVec.getLsbD i = false := by
  unfold bt
  rw [← Int32.toBitVec_inj]
  show ((x.toBitVec >>> (((iI (i : Nat)).toUInt32 &&& Int32.toUInt32 31).toBitVec % 32)) &&& 1#32) = 0#32 ↔ _
  rw [BitVec.ushiftRight_eq', bt_amt i hi]
  constructor
  · intro h
    have := congrArg (fun v => v.getLsbD 0) h
    simpa using this
  · intro h
    apply BitVec.eq_of_getLsbD_eq
    intro k hk
    rw [BitVec.getLsbD_and, BitVec.getLsbD_ushiftRight]
    cases k with
    | zero => simp [h]
    | succ k => simp
theorem bt_set (x : Int32) {i k : Nat} (hi : i < 27) (hk : k < 27) : bt (x ||| ((1 : Int32) <<< ((iI i) &&& 31))) (iI k) ↔ bt x (iI k) ∧ k ≠ i := by
  rw [bt_iff _ hk, bt_iff _ hk, Int32.toBitVec_or, BitVec.getLsbD_or, bt_one i hi k hk]
  simp
theorem bt_0 : ∀ i, i < 27 → bt (0 : Int32) (iI (i : Nat)) := fun i hi => by rw [bt_iff _ hi]; simp
def LtC (g : Nat → Bool) (P : PS) : Prop := ∀ i, i < 27 → 0 ≤ lineK (OWN.getD i []) → (bt (gI P 0 0) (iI i) ↔ g (lineK (OWN.getD i [])).toNat = false)
theorem lineK_own : ∀ i, i < 27 → i ≠ 3 → i ≠ 7 → i ≠ 8 → i ≠ 9 → i ≠ 10 → i ≠ 12 → i ≠ 13 → lineK (OWN.getD i []) = -1 := by
  have h : ∀ i, i < 27 → (i = 3 ∨ i = 7 ∨ i = 8 ∨ i = 9 ∨ i = 10 ∨ i = 12 ∨ i = 13) ∨ lineK (OWN.getD i []) = -1 := by decide +kernel
  intro i hi a b c d e f g
  rcases h i hi with q | q
  · omega
  · exact q
theorem lineK_ne : ∀ i, i < 27 → ∀ k, k < 27 → 0 ≤ lineK (OWN.getD i []) → lineK (OWN.getD i []) = lineK (OWN.getD k []) → i = k := by decide +kernel
theorem lineK_no {l : List Int} (h : wid l = -1) : lineK l = -1 := by
  have no : ∀ i, i < 27 → l ≠ OWN.getD i [] := fun i hi e => by have := (wid_iff hi).mpr e; omega
  unfold lineK
  rw [if_neg (show l ≠ w_eye from no 3 (by omega)), if_neg (show l ≠ w_noise from no 7 (by omega)), if_neg (show l ≠ w_off from no 8 (by omega)), if_neg (show l ≠ w_bar from no 9 (by omega)), if_neg (show l ≠ w_step from no 10 (by omega)), if_neg (show l ≠ w_lean from no 12 (by omega)), if_neg (show l ≠ w_room from no 13 (by omega))]
theorem LtC.set {g : Nat → Bool} {P : PS} {i : Nat} (h : LtC g P) (hi : i < 27) (h0 : 0 ≤ lineK (OWN.getD i [])) : LtC (upB g (lineK (OWN.getD i [])).toNat true) (sI P 0 0 (gI P 0 0 ||| ((1 : Int32) <<< ((iI i) &&& 31)))) := fun k hk hk0 => by
  show bt (gI P 0 0 ||| ((1 : Int32) <<< ((iI i) &&& 31))) (iI k) ↔ _
  rw [bt_set _ hi hk, h k hk hk0]
  unfold upB
  by_cases c : k = i
  · subst c; simp
  · have : ¬ (lineK (OWN.getD k [])).toNat = (lineK (OWN.getD i [])).toNat := fun e => c (lineK_ne k hk i hi hk0 (by omega))
    rw [if_neg this]
    exact ⟨fun q => q.1, fun q => ⟨q, c⟩⟩
def AcC (j : Nat) (a : BA) (P2 P10 : PS) : Prop := TdC j a.2.1 P2 ∧ SsC j a.1 P2 ∧ LtC a.2.2 P10
theorem C_readLine {d j : Nat} {b : Nat → Int} {n q : Nat} {a : BA} {P0 P1 P2 P3 P4 P5 P6 P7 P8 P9 P10 : PS} {R : List PS} {Q : Option AV → List PS → Prop} (hq : q ≤ n) (ht : TxC false b n P1) (hk : TkC (tok false b n q) P1) (hA : AcC j a P2 P10)
    (hy : ∀ a' q' P1' P2' P10', lineS b n a q = .ok (a', q') → q < q' → q' ≤ n → TxC false b n P1' → TkC (tok false b n q') P1' → Fr tsI [7] [] [] P1 P1' → AcC j a' P2' P10' → FrB j P2 P2' → Fr [0] [] [] [] P10 P10' → Q (some (vI (iI 1))) (P0 :: P1' :: P2' :: P3 :: P4 :: P5 :: P6 :: P7 :: P8 :: P9 :: P10' :: R))
    (hn : ∀ e P1' P2' P10', lineS b n a q = .error e → FaC e P1' → Fr tcI [7] [] [] P1 P1' → FrB j P2 P2' → Fr [0] [] [] [] P10 P10' → Q (some (vI (iI 0))) (P0 :: P1' :: P2' :: P3 :: P4 :: P5 :: P6 :: P7 :: P8 :: P9 :: P10' :: R)) :
    Tri 16 (d + 5) [vR 10 0 0, vR 1 0 0, vR 2 j 0] (P0 :: P1 :: P2 :: P3 :: P4 :: P5 :: P6 :: P7 :: P8 :: P9 :: P10 :: R) Q := by
  refine enX1_readLine ?_
  unfold fX1_readLine_0
  obtain ⟨hT, hS, hL⟩ := hA
  have mo : ∀ {B C : PS}, Fr [2, 3] [] [] [] B C → Fr tcI [7] [] [] B C := fun f => f.mono (by simp [tcI, tsI]) (by simp) (by simp) (by simp)
  have bad : ∀ P10', Fr [0] [] [] [] P10 P10' → lineS b n a q = .error (badF (tok false b n q), ((tok false b n q).2.1 : Nat)) → Tri 103 (d + 4) [vR 1 0 0] (P0 :: P1 :: P2 :: P3 :: P4 :: P5 :: P6 :: P7 :: P8 :: P9 :: P10' :: R) (fun r1 h1 => hx11 h1 fun P0_1 P1_1 P2_1 P3_1 P4_1 P5_1 P6_1 P7_1 P8_1 P9_1 P10_1 R_1 => rI r1 fun y1 => (y1 = 0 ∨ y1 = 1) ∧ Q (some (vI y1)) (P0_1 :: P1_1 :: P2_1 :: P3_1 :: P4_1 :: P5_1 :: P6_1 :: P7_1 :: P8_1 :: P9_1 :: P10_1 :: R_1)) := fun P10' hf he =>
    C_refuseHere hq hk (fun P' fa f1 => ⟨Or.inl rfl, hn _ P' P2 P10' he fa (mo f1) FrB.rf hf⟩)
  rw [(hk.k hq).1]
  refine ⟨fun c1 => ?_, fun c1 => bad P10 Fr.rf ?_⟩
  case refine_2 =>
    unfold lineS; dsimp only; rw [if_neg (fun g => c1 g.1), if_neg (fun g => c1 g.1)]
  have hw := wid_bd (tok false b n q).2.2.2.2
  have hv := (hk.2.2.2.1 c1).1
  rw [hv]
  have eqv : ∀ k : Int, 0 ≤ k → k < 100 → (iI (wid (tok false b n q).2.2.2.2) = iI k ↔ wid (tok false b n q).2.2.2.2 = k) := fun k h0 h1 => iI_eq (by omega) (by omega) (by omega) (by omega)
  refine ⟨fun c0 => ?_, fun c0 => ?_⟩
  case refine_2 =>
    have c0' := (eqv 0 (by omega) (by omega)).mp c0
    have el : (tok false b n q).2.2.2.2 = w_star := (wid_iff (i := 0) (by omega)).mp c0'
    have ek : lineK (tok false b n q).2.2.2.2 = -1 := by rw [el]; decide
    refine C_readStar hq ht hk c1 hT hS (fun c P1' fa f1 => ?_) (fun l' q' P1' P2' c e l1 l2 t' k' f1 T' S' J' => ?_) (fun e P1' c e1 fa f1 => ?_)
    · refine ⟨Or.inl rfl, hn _ P1' P2 P10 ?_ fa f1 FrB.rf Fr.rf⟩
      unfold lineS; dsimp only; rw [if_neg (fun g => by have := g.2.2; omega), if_neg (fun g => by have := g.2.1; omega)]
    · refine ⟨Or.inr rfl, hy (l', a.2.1, a.2.2) q' P1' P2' P10 ?_ l1 l2 t' k' f1 ⟨T', S', hL⟩ J' Fr.rf⟩
      unfold lineS; dsimp only; rw [if_pos ⟨c1, el, c⟩, e]; rfl
    · refine ⟨Or.inl rfl, hn e P1' P2 P10 ?_ fa f1 FrB.rf Fr.rf⟩
      unfold lineS; dsimp only; rw [if_pos ⟨c1, el, c⟩, e1]; rfl
  have c0' : ¬ wid (tok false b n q).2.2.2.2 = 0 := fun e => c0 ((eqv 0 (by omega) (by omega)).mpr e)
  have ns : (tok false b n q).2.2.2.2 ≠ w_star := fun e => c0' ((wid_iff (i := 0) (by omega)).mpr e)
  have lin : ∀ k : Int, lineK (tok false b n q).2.2.2.2 = k → (¬ 0 ≤ k ∨ a.2.2 k.toNat = true) → lineS b n a q = .error (badF (tok false b n q), ((tok false b n q).2.1 : Nat)) := fun k e g => by
    unfold lineS; dsimp only; rw [if_neg (fun g => ns g.2.1), e, if_neg]
    rintro ⟨-, g1, g2⟩
    rcases g with g | g
    · exact g g1
    · rw [g] at g2; exact absurd g2 (by decide)
  rw [show (0 : Int32) = iI 0 from rfl, iI_lt (by omega) (by omega) (by omega) (by omega)]
  refine ⟨fun c => bad P10 Fr.rf (lin _ rfl (Or.inl (by rw [lineK_no (by omega)]; decide))), fun c => ?_⟩
  obtain ⟨i, hi⟩ : ∃ i : Nat, wid (tok false b n q).2.2.2.2 = i := ⟨(wid (tok false b n q).2.2.2.2).toNat, by omega⟩
  have hi27 : i < 27 := by omega
  have el : (tok false b n q).2.2.2.2 = OWN.getD i [] := (wid_iff hi27).mp hi
  rw [hi] at eqv ⊢
  have hF : ∀ v, Fr [0] [] [] [] P10 (sI P10 0 0 v) := fun v => Fr.rf.sI (by simp)
  refine ⟨fun cb => ?_, fun cb => bad P10 Fr.rf ?_⟩
  case refine_2 =>
    by_cases hk0 : 0 ≤ lineK (OWN.getD i [])
    · refine lin _ (by rw [el]) (Or.inr ?_)
      cases e : a.2.2 (lineK (OWN.getD i [])).toNat with
      | true => rfl
      | false => exact absurd ((hL i hi27 hk0).mpr e) cb
    · exact lin _ (by rw [el]) (Or.inl hk0)
  have tl : ∀ k : Nat, lineK (OWN.getD i []) = k → lineS b n a q = (toldS b n k a.2.1 (tok false b n q).2.2.1 >>= fun fq => .ok ((a.1, fq.1, upB a.2.2 k true), fq.2)) := fun k e => by
    have hf : a.2.2 k = false := by
      have := (hL i hi27 (by omega)).mp cb
      rw [e] at this; exact this
    unfold lineS; dsimp only; rw [if_neg (fun g => ns g.2.1), el, e, if_pos ⟨c1, by omega, hf⟩]
    rfl
  have yes : ∀ k : Nat, lineK (OWN.getD i []) = k → ToldY j b n k a.2.1 q a.1 P0 P1 P2 (P3 :: P4 :: P5 :: P6 :: P7 :: P8 :: P9 :: (sI P10 0 0 ((gI P10 0 0) ||| ((1 : Int32) <<< ((iI i) &&& 31)))) :: R) (fun r1 h1 => hx11 h1 fun P0_1 P1_1 P2_1 P3_1 P4_1 P5_1 P6_1 P7_1 P8_1 P9_1 P10_1 R_1 => rI r1 fun y1 => (y1 = 0 ∨ y1 = 1) ∧ Q (some (vI y1)) (P0_1 :: P1_1 :: P2_1 :: P3_1 :: P4_1 :: P5_1 :: P6_1 :: P7_1 :: P8_1 :: P9_1 :: P10_1 :: R_1)) := fun k e f' q' P1' P2' e1 l1 l2 t' k' f1 T' S' J' => by
    refine ⟨Or.inr rfl, hy (a.1, f', upB a.2.2 k true) q' P1' P2' _ (by rw [tl k e, e1]; rfl) l1 l2 t' k' f1 ⟨T', S', ?_⟩ J' (hF _)⟩
    have := hL.set hi27 (by omega)
    rw [e] at this; exact this
  have no : ∀ k : Nat, lineK (OWN.getD i []) = k → ToldN j b n k a.2.1 q P0 P1 P2 (P3 :: P4 :: P5 :: P6 :: P7 :: P8 :: P9 :: (sI P10 0 0 ((gI P10 0 0) ||| ((1 : Int32) <<< ((iI i) &&& 31)))) :: R) (fun r1 h1 => hx11 h1 fun P0_1 P1_1 P2_1 P3_1 P4_1 P5_1 P6_1 P7_1 P8_1 P9_1 P10_1 R_1 => rI r1 fun y1 => (y1 = 0 ∨ y1 = 1) ∧ Q (some (vI y1)) (P0_1 :: P1_1 :: P2_1 :: P3_1 :: P4_1 :: P5_1 :: P6_1 :: P7_1 :: P8_1 :: P9_1 :: P10_1 :: R_1)) := fun k e e1 P1' P2' e2 fa f1 J' =>
    ⟨Or.inl rfl, hn e1 P1' P2' _ (by rw [tl k e, e2]; rfl) fa f1 J' (hF _)⟩
  have ev : ∀ k : Nat, k < 27 → (iI (i : Nat) = iI k ↔ i = k) := fun k hk' => by rw [iI_eq (by omega) (by omega) (by omega) (by omega)]; omega
  have lk : ∀ k : Nat, k < 27 → iI (i : Nat) = iI k → lineK (OWN.getD i []) = lineK (OWN.getD k []) := fun k hk' e => by rw [(ev k hk').mp e]
  have nb : lineK (OWN.getD i []) = -1 → Tri 103 (d + 4) [vR 1 0 0] (P0 :: P1 :: P2 :: P3 :: P4 :: P5 :: P6 :: P7 :: P8 :: P9 :: (sI P10 0 0 ((gI P10 0 0) ||| ((1 : Int32) <<< ((iI i) &&& 31)))) :: R) (fun r1 h1 => hx11 h1 fun P0_1 P1_1 P2_1 P3_1 P4_1 P5_1 P6_1 P7_1 P8_1 P9_1 P10_1 R_1 => rI r1 fun y1 => (y1 = 0 ∨ y1 = 1) ∧ Q (some (vI y1)) (P0_1 :: P1_1 :: P2_1 :: P3_1 :: P4_1 :: P5_1 :: P6_1 :: P7_1 :: P8_1 :: P9_1 :: P10_1 :: R_1)) := fun e =>
    bad _ (hF _) (lin (-1) (by rw [el]; exact e) (Or.inl (by decide)))
  refine ⟨fun e => C_readEye hq ht hk c1 hT hS (yes 0 (lk 3 (by omega) e)) (no 0 (lk 3 (by omega) e)), fun n3 => ?_⟩
  refine ⟨fun e => nb (lk 4 (by omega) e), fun n4 => ⟨fun e => nb (lk 5 (by omega) e), fun n5 => ⟨fun e => nb (lk 6 (by omega) e), fun n6 => ?_⟩⟩⟩
  refine ⟨fun e => C_readNoise hq ht hk c1 hT hS (yes 3 (lk 7 (by omega) e)) (no 3 (lk 7 (by omega) e)), fun n7 => ?_⟩
  refine ⟨fun e => C_readOff hq ht hk c1 hT hS (yes 4 (lk 8 (by omega) e)) (no 4 (lk 8 (by omega) e)), fun n8 => ?_⟩
  refine ⟨fun e => C_readBar hq ht hk c1 hT hS (yes 5 (lk 9 (by omega) e)) (no 5 (lk 9 (by omega) e)), fun n9 => ?_⟩
  refine ⟨fun e => C_readStep hq ht hk c1 hT hS (yes 6 (lk 10 (by omega) e)) (no 6 (lk 10 (by omega) e)), fun n10 => ?_⟩
  refine ⟨fun e => nb (lk 11 (by omega) e), fun n11 => ?_⟩
  refine ⟨fun e => C_readLean hq ht hk c1 hT hS (yes 8 (lk 12 (by omega) e)) (no 8 (lk 12 (by omega) e)), fun n12 => ?_⟩
  refine ⟨fun e => C_readRoom hq ht hk c1 hT hS (yes 10 (lk 13 (by omega) e)) (no 10 (lk 13 (by omega) e)), fun n13 => ?_⟩
  exact nb (lineK_own i hi27 (fun e => n3 ((ev 3 (by omega)).mpr e)) (fun e => n7 ((ev 7 (by omega)).mpr e)) (fun e => n8 ((ev 8 (by omega)).mpr e)) (fun e => n9 ((ev 9 (by omega)).mpr e)) (fun e => n10 ((ev 10 (by omega)).mpr e)) (fun e => n12 ((ev 12 (by omega)).mpr e)) (fun e => n13 ((ev 13 (by omega)).mpr e)))
