/-- the digits of a number -/
theorem M_tk144 {z : Nat × Nat × Nat × Nat} {d : Nat} {r : Bool} {b : Nat → Int} {n p : Nat} {P0 : PS} {R : List PS} {Q : Option AV → List PS → Prop} (hp : p ≤ n)
    (h : ∀ P', Fr [4, 6, 8] [] [] [] P0 P' → gI P' 0 6 = iI (if 4 < rl dig b n p ∨ (p + rl dig b n p < n ∧ ltr (b (p + rl dig b n p)) = true) then 3 else 2) → (¬ (4 < rl dig b n p ∨ (p + rl dig b n p < n ∧ ltr (b (p + rl dig b n p)) = true)) → gI P' 0 8 = iI (dv b p (rl dig b n p)) ∧ gI P' 0 4 = iI ((p + rl dig b n p : Nat) : Int)) → Q none (P' :: R)) :
    ∀ (m k : Nat) (P : PS), n - (p + k) ≤ m → p + k ≤ n → Fr [4, 6, 8] [] [] [] P0 P → TxM r b n P → gI P 0 4 = iI p → (∀ j, j < k → p + j < n ∧ dig (b (p + j)) = true) → (k ≤ 4 → gI P 0 8 = iI (dv b p k)) → cX12_token_144 z d (iI k) P R Q := by
  intro m
  induction m with
  | zero =>
    intro k P hm hk hf ht ha hj hw
    have hn15 := ht.2.2.1
    have he := rl_eq (p := dig) ⟨hj, fun q => by omega⟩
    refine gX12_token_144 ?_
    unfold fX12_token_144
    refine M_here (k := k) ht ha (by omega) (fun q => by omega) (fun _ => ?_)
    dsimp only [hx1, rI]
    refine M_isDigit (by omega) (by omega) (fun q => by simp [dig] at q) (fun _ => ?_)
    dsimp only [hx1, rI]
    refine ⟨fun _ => ⟨fun c => ⟨fun _ => ?_, fun q => absurd rfl q⟩, fun c => ?_⟩, fun q => absurd rfl q⟩
    · rw [iI_lit, iI_lt (by omega) (by omega) (by omega) (by omega)] at c
      refine h _ (hf.sI (by simp)) ?_ (fun q => absurd (Or.inl (by omega)) q)
      simp only [gI_sI, gI_sL, gI_sA, gI_sB, gI_sO, gI_sR, gI_sW, gL_sI, gL_sL, gL_sA, gL_sB, gL_sO, gL_sR, gL_sW, gA_sI, gA_sL, gA_sA, gA_sB, gA_sO, gA_sR, gB_sI, gB_sL, gB_sA, gB_sB, gB_sO, gB_sR, gB_sW, gO_sI, gO_sL, gO_sA, gO_sB, gO_sO, gO_sR, gO_sW, gR_sI, gR_sL, gR_sA, gR_sB, gR_sO, gR_sR, gR_sW, gN_sI, gN_sL, gN_sA, gN_sB, gN_sO, gN_sR, gN_sW, if_true, if_false, Nat.reduceEqDiff, reduceIte]; rw [he, if_pos (Or.inl (by omega))]; rfl
    · rw [iI_lit, iI_lt (by omega) (by omega) (by omega) (by omega)] at c
      refine M_here (k := k) ht ha (by omega) (fun q => by omega) (fun _ => ?_)
      dsimp only [hx1, rI]
      refine M_isLetter (by omega) (by omega) (fun q => by simp [ltr] at q) (fun _ => ?_)
      dsimp only [hx1, rI]
      have hno : ¬ (4 < k ∨ (p + k < n ∧ ltr (b (p + k)) = true)) := fun q => by omega
      refine ⟨fun _ => ⟨fun q => absurd q (by decide), fun _ => ?_⟩, fun q => absurd rfl q⟩
      refine h _ ((hf.sI (by simp)).sI (by simp)) ?_ (fun _ => ⟨?_, ?_⟩)
      · simp only [gI_sI, gI_sL, gI_sA, gI_sB, gI_sO, gI_sR, gI_sW, gL_sI, gL_sL, gL_sA, gL_sB, gL_sO, gL_sR, gL_sW, gA_sI, gA_sL, gA_sA, gA_sB, gA_sO, gA_sR, gB_sI, gB_sL, gB_sA, gB_sB, gB_sO, gB_sR, gB_sW, gO_sI, gO_sL, gO_sA, gO_sB, gO_sO, gO_sR, gO_sW, gR_sI, gR_sL, gR_sA, gR_sB, gR_sO, gR_sR, gR_sW, gN_sI, gN_sL, gN_sA, gN_sB, gN_sO, gN_sR, gN_sW, if_true, if_false, Nat.reduceEqDiff, reduceIte]; rw [he, if_neg hno]; rfl
      · simp only [gI_sI, gI_sL, gI_sA, gI_sB, gI_sO, gI_sR, gI_sW, gL_sI, gL_sL, gL_sA, gL_sB, gL_sO, gL_sR, gL_sW, gA_sI, gA_sL, gA_sA, gA_sB, gA_sO, gA_sR, gB_sI, gB_sL, gB_sA, gB_sB, gB_sO, gB_sR, gB_sW, gO_sI, gO_sL, gO_sA, gO_sB, gO_sO, gO_sR, gO_sW, gR_sI, gR_sL, gR_sA, gR_sB, gR_sO, gR_sR, gR_sW, gN_sI, gN_sL, gN_sA, gN_sB, gN_sO, gN_sR, gN_sW, if_true, if_false, Nat.reduceEqDiff, reduceIte]; rw [he]; exact hw (by omega)
      · simp only [gI_sI, gI_sL, gI_sA, gI_sB, gI_sO, gI_sR, gI_sW, gL_sI, gL_sL, gL_sA, gL_sB, gL_sO, gL_sR, gL_sW, gA_sI, gA_sL, gA_sA, gA_sB, gA_sO, gA_sR, gB_sI, gB_sL, gB_sA, gB_sB, gB_sO, gB_sR, gB_sW, gO_sI, gO_sL, gO_sA, gO_sB, gO_sO, gO_sR, gO_sW, gR_sI, gR_sL, gR_sA, gR_sB, gR_sO, gR_sR, gR_sW, gN_sI, gN_sL, gN_sA, gN_sB, gN_sO, gN_sR, gN_sW, if_true, if_false, Nat.reduceEqDiff, reduceIte]; rw [ha, iI_add, he]; congr 1
  | succ m ih =>
    intro k P hm hk hf ht ha hj hw
    have hn15 := ht.2.2.1
    by_cases hend : n ≤ p + k
    · exact ih k P (by omega) hk hf ht ha hj hw
    refine gX12_token_144 ?_
    unfold fX12_token_144
    refine M_here (k := k) ht ha (by omega) (fun hlt hb0 hb1 => ?_) (fun hge => ?_)
    · dsimp only [hx1, rI]
      refine M_isDigit (by omega) (by omega) (fun hl => ?_) (fun hl => ?_)
      · dsimp only [hx1, rI]
        have hj' : ∀ j, j < k + 1 → p + j < n ∧ dig (b (p + j)) = true := fun j hj' => by
          rcases Nat.lt_succ_iff_lt_or_eq.mp hj' with q | q
          · exact hj j q
          · rw [q]; exact ⟨hlt, hl⟩
        refine ⟨fun q => absurd q (by decide), fun _ => ⟨fun c => ?_, fun c => ?_⟩⟩
        · rw [iI_lit, iI_le (by omega) (by omega) (by omega) (by omega)] at c
          rw [iI_lit, iI_add]
          exact ih (k + 1) P (by omega) (by omega) hf ht ha hj' (fun q => by omega)
        · rw [iI_lit, iI_le (by omega) (by omega) (by omega) (by omega)] at c
          refine M_here (k := k) ht ha (by omega) (fun _ _ _ => ?_) (fun q => by omega)
          dsimp only [hx1, rI]
          rw [hw (by omega)]
          simp only [iI_lit, iI_add, iI_mul, iI_sub]
          refine ih (k + 1) _ (by omega) (by omega) (hf.sI (by simp)) (ht.fr (Fr.sI (is := [8]) (ls := []) (as := []) (bs := []) Fr.rf (by simp)) (by simp) (by simp) (by simp)) (by simp only [gI_sI, gI_sL, gI_sA, gI_sB, gI_sO, gI_sR, gI_sW, gL_sI, gL_sL, gL_sA, gL_sB, gL_sO, gL_sR, gL_sW, gA_sI, gA_sL, gA_sA, gA_sB, gA_sO, gA_sR, gB_sI, gB_sL, gB_sA, gB_sB, gB_sO, gB_sR, gB_sW, gO_sI, gO_sL, gO_sA, gO_sB, gO_sO, gO_sR, gO_sW, gR_sI, gR_sL, gR_sA, gR_sB, gR_sO, gR_sR, gR_sW, gN_sI, gN_sL, gN_sA, gN_sB, gN_sO, gN_sR, gN_sW, if_true, if_false, Nat.reduceEqDiff, reduceIte]; exact ha) hj' (fun _ => ?_)
          simp only [gI_sI, gI_sL, gI_sA, gI_sB, gI_sO, gI_sR, gI_sW, gL_sI, gL_sL, gL_sA, gL_sB, gL_sO, gL_sR, gL_sW, gA_sI, gA_sL, gA_sA, gA_sB, gA_sO, gA_sR, gB_sI, gB_sL, gB_sA, gB_sB, gB_sO, gB_sR, gB_sW, gO_sI, gO_sL, gO_sA, gO_sB, gO_sO, gO_sR, gO_sW, gR_sI, gR_sL, gR_sA, gR_sB, gR_sO, gR_sR, gR_sW, gN_sI, gN_sL, gN_sA, gN_sB, gN_sO, gN_sR, gN_sW, if_true, if_false, Nat.reduceEqDiff, reduceIte]
          congr 1
          rw [dv]
          omega
      · dsimp only [hx1, rI]
        have hno : ¬ (p + k < n ∧ dig (b (p + k)) = true) := fun q => by rw [hl] at q; exact absurd q.2 (by decide)
        have he := rl_eq (p := dig) ⟨hj, hno⟩
        refine ⟨fun _ => ⟨fun c => ⟨fun _ => ?_, fun q => absurd rfl q⟩, fun c => ?_⟩, fun q => absurd rfl q⟩
        · rw [iI_lit, iI_lt (by omega) (by omega) (by omega) (by omega)] at c
          refine h _ (hf.sI (by simp)) ?_ (fun q => absurd (Or.inl (by omega)) q)
          simp only [gI_sI, gI_sL, gI_sA, gI_sB, gI_sO, gI_sR, gI_sW, gL_sI, gL_sL, gL_sA, gL_sB, gL_sO, gL_sR, gL_sW, gA_sI, gA_sL, gA_sA, gA_sB, gA_sO, gA_sR, gB_sI, gB_sL, gB_sA, gB_sB, gB_sO, gB_sR, gB_sW, gO_sI, gO_sL, gO_sA, gO_sB, gO_sO, gO_sR, gO_sW, gR_sI, gR_sL, gR_sA, gR_sB, gR_sO, gR_sR, gR_sW, gN_sI, gN_sL, gN_sA, gN_sB, gN_sO, gN_sR, gN_sW, if_true, if_false, Nat.reduceEqDiff, reduceIte]; rw [he, if_pos (Or.inl (by omega))]; rfl
        · rw [iI_lit, iI_lt (by omega) (by omega) (by omega) (by omega)] at c
          refine M_here (k := k) ht ha (by omega) (fun _ _ _ => ?_) (fun q => by omega)
          dsimp only [hx1, rI]
          refine M_isLetter (by omega) (by omega) (fun hlt2 => ?_) (fun hlt2 => ?_)
          · dsimp only [hx1, rI]
            refine ⟨fun q => absurd q (by decide), fun _ => ⟨fun _ => ?_, fun q => absurd rfl q⟩⟩
            refine h _ (hf.sI (by simp)) ?_ (fun q => absurd (Or.inr ⟨by omega, by rw [he]; exact hlt2⟩) q)
            simp only [gI_sI, gI_sL, gI_sA, gI_sB, gI_sO, gI_sR, gI_sW, gL_sI, gL_sL, gL_sA, gL_sB, gL_sO, gL_sR, gL_sW, gA_sI, gA_sL, gA_sA, gA_sB, gA_sO, gA_sR, gB_sI, gB_sL, gB_sA, gB_sB, gB_sO, gB_sR, gB_sW, gO_sI, gO_sL, gO_sA, gO_sB, gO_sO, gO_sR, gO_sW, gR_sI, gR_sL, gR_sA, gR_sB, gR_sO, gR_sR, gR_sW, gN_sI, gN_sL, gN_sA, gN_sB, gN_sO, gN_sR, gN_sW, if_true, if_false, Nat.reduceEqDiff, reduceIte]; rw [he, if_pos (Or.inr ⟨hlt, hlt2⟩)]; rfl
          · dsimp only [hx1, rI]
            have hno2 : ¬ (4 < k ∨ (p + k < n ∧ ltr (b (p + k)) = true)) := fun q => by
              rcases q with q | q
              · omega
              · rw [hlt2] at q; exact absurd q.2 (by decide)
            refine ⟨fun _ => ⟨fun q => absurd q (by decide), fun _ => ?_⟩, fun q => absurd rfl q⟩
            refine h _ ((hf.sI (by simp)).sI (by simp)) ?_ (fun _ => ⟨?_, ?_⟩)
            · simp only [gI_sI, gI_sL, gI_sA, gI_sB, gI_sO, gI_sR, gI_sW, gL_sI, gL_sL, gL_sA, gL_sB, gL_sO, gL_sR, gL_sW, gA_sI, gA_sL, gA_sA, gA_sB, gA_sO, gA_sR, gB_sI, gB_sL, gB_sA, gB_sB, gB_sO, gB_sR, gB_sW, gO_sI, gO_sL, gO_sA, gO_sB, gO_sO, gO_sR, gO_sW, gR_sI, gR_sL, gR_sA, gR_sB, gR_sO, gR_sR, gR_sW, gN_sI, gN_sL, gN_sA, gN_sB, gN_sO, gN_sR, gN_sW, if_true, if_false, Nat.reduceEqDiff, reduceIte]; rw [he, if_neg hno2]; rfl
            · simp only [gI_sI, gI_sL, gI_sA, gI_sB, gI_sO, gI_sR, gI_sW, gL_sI, gL_sL, gL_sA, gL_sB, gL_sO, gL_sR, gL_sW, gA_sI, gA_sL, gA_sA, gA_sB, gA_sO, gA_sR, gB_sI, gB_sL, gB_sA, gB_sB, gB_sO, gB_sR, gB_sW, gO_sI, gO_sL, gO_sA, gO_sB, gO_sO, gO_sR, gO_sW, gR_sI, gR_sL, gR_sA, gR_sB, gR_sO, gR_sR, gR_sW, gN_sI, gN_sL, gN_sA, gN_sB, gN_sO, gN_sR, gN_sW, if_true, if_false, Nat.reduceEqDiff, reduceIte]; rw [he]; exact hw (by omega)
            · simp only [gI_sI, gI_sL, gI_sA, gI_sB, gI_sO, gI_sR, gI_sW, gL_sI, gL_sL, gL_sA, gL_sB, gL_sO, gL_sR, gL_sW, gA_sI, gA_sL, gA_sA, gA_sB, gA_sO, gA_sR, gB_sI, gB_sL, gB_sA, gB_sB, gB_sO, gB_sR, gB_sW, gO_sI, gO_sL, gO_sA, gO_sB, gO_sO, gO_sR, gO_sW, gR_sI, gR_sL, gR_sA, gR_sB, gR_sO, gR_sR, gR_sW, gN_sI, gN_sL, gN_sA, gN_sB, gN_sO, gN_sR, gN_sW, if_true, if_false, Nat.reduceEqDiff, reduceIte]; rw [ha, iI_add, he]; congr 1
    · exact absurd hge (by omega)
theorem M_here0 {d : Nat} {r : Bool} {b : Nat → Int} {n q : Nat} {P : PS} {R : List PS} {Q : Option AV → List PS → Prop} (ht : TxM r b n P) (ha : gI P 0 4 = iI q) (hq : q ≤ 100000) (hy : q < n → 0 ≤ b q → b q < 256 → Q (some (vI (iI (b q)))) (P :: R)) (hn : n ≤ q → Q (some (vI (iI (-1)))) (P :: R)) : Tri 174 d [vR 0 0 0, vI (0 : Int32)] (P :: R) Q :=
  M_here (k := 0) ht ha hq hy hn
theorem Fr.mono {is ls as bs is' ls' as' bs' : List Nat} {P P' : PS} (h : Fr is ls as bs P P') (s1 : is ⊆ is') (s2 : ls ⊆ ls') (s3 : as ⊆ as') (s4 : bs ⊆ bs') : Fr is' ls' as' bs' P P' := ⟨h.1, fun a ha => h.2.1 a (fun q => ha (s1 q)), fun a ha => h.2.2.1 a (fun q => ha (s2 q)), fun a i ha => h.2.2.2.1 a i (fun q => ha (s3 q)), fun a i ha => h.2.2.2.2 a i (fun q => ha (s4 q))⟩
theorem Fr.trs {is ls as bs : List Nat} {P P' P'' : PS} (h : Fr is ls as bs P P') (h' : Fr is ls as bs P' P'') : Fr is ls as bs P P'' := Fr.tr h h' (fun _ q => q) (fun _ q => q) (fun _ q => q) (fun _ q => q) (fun _ q => q) (fun _ q => q) (fun _ q => q) (fun _ q => q)
abbrev tkI : List Nat := [4, 6, 7, 8]
/-- a TOKEN, behind the blanks -/
theorem M_tk_on {z : Nat × Nat × Nat × Nat} {d : Nat} {r : Bool} {b : Nat → Int} {n q p : Nat} {P0 P : PS} {R : List PS} {Q : Option AV → List PS → Prop} (hpq : p = q + rl blk b n q) (hp : p ≤ n) (hf : Fr tkI [9] [] [] P0 P) (ht : TxM r b n P) (ha : gI P 0 4 = iI p)
    (h : ∀ P', Fr tkI [9] [] [] P0 P' → TkM (tok r b n q) P' → Q none (P' :: R)) :
    Tri 174 d [vR 0 0 0, vI (0 : Int32)] ((sI P 0 7 (gI P 0 4)) :: R) (fun r3 h3 => hx1 h3 fun P0_3 R_3 => rI r3 fun y3 => (0 ≤ y3 → Tri 175 d [vI y3] ((sI (sL P0_3 0 9 (0 : Int64)) 0 8 (0 : Int32)) :: R_3) (fun r4 h4 => hx1 h4 fun P0_4 R_4 => rI r4 fun y4 => (y4 = 0 → Tri 176 d [vI y3] (P0_4 :: R_4) (fun r5 h5 => hx1 h5 fun P0_5 R_5 => rI r5 fun y5 => (y5 = 0 → Tri 177 d [vR 0 0 0, vI y3] (P0_5 :: R_5) (fun r6 h6 => hx1 h6 fun P0_6 R_6 => rI r6 fun y6 => (y6 = 0 → ((3 : Int32) = (3 : Int32) → Q none ((sI P0_6 0 6 (3 : Int32)) :: R_6)) ∧ (¬ (3 : Int32) = (3 : Int32) → Q none ((sI (sI P0_6 0 6 (3 : Int32)) 0 4 ((gI P0_6 0 4) + (1 : Int32))) :: R_6))) ∧ (¬ y6 = 0 → (y3 = (3 : Int32) → Q none ((sI P0_6 0 6 y3) :: R_6)) ∧ (¬ y3 = (3 : Int32) → Q none ((sI (sI P0_6 0 6 y3) 0 4 ((gI P0_6 0 4) + (1 : Int32))) :: R_6))))) ∧ (¬ y5 = 0 → cX12_token_144 z d (0 : Int32) P0_5 R_5 Q))) ∧ (¬ y4 = 0 → cX12_token_78 z d (0 : Int32) P0_4 R_4 Q))) ∧ (¬ 0 ≤ y3 → ((0 : Int32) = (3 : Int32) → Q none ((sI (sI (sL P0_3 0 9 (0 : Int64)) 0 8 (0 : Int32)) 0 6 (0 : Int32)) :: R_3)) ∧ (¬ (0 : Int32) = (3 : Int32) → Q none ((sI (sI (sI (sL P0_3 0 9 (0 : Int64)) 0 8 (0 : Int32)) 0 6 (0 : Int32)) 0 4 ((gI P0_3 0 4) + (0 : Int32))) :: R_3)))) := by
  have hn15 := ht.2.2.1
  have hf1 : Fr tkI [9] [] [] P0 (sI P 0 7 (gI P 0 4)) := hf.sI (by simp [tkI])
  have ht1 : TxM r b n (sI P 0 7 (gI P 0 4)) := ht.fr (Fr.sI (is := [7]) (ls := []) (as := []) (bs := []) Fr.rf (by simp)) (by simp) (by simp) (by simp)
  have ha1 : gI (sI P 0 7 (gI P 0 4)) 0 4 = iI p := by simp only [gI_sI, gI_sL, gI_sA, gI_sB, gI_sO, gI_sR, gI_sW, gL_sI, gL_sL, gL_sA, gL_sB, gL_sO, gL_sR, gL_sW, gA_sI, gA_sL, gA_sA, gA_sB, gA_sO, gA_sR, gB_sI, gB_sL, gB_sA, gB_sB, gB_sO, gB_sR, gB_sW, gO_sI, gO_sL, gO_sA, gO_sB, gO_sO, gO_sR, gO_sW, gR_sI, gR_sL, gR_sA, gR_sB, gR_sO, gR_sR, gR_sW, gN_sI, gN_sL, gN_sA, gN_sB, gN_sO, gN_sR, gN_sW, if_true, if_false, Nat.reduceEqDiff, reduceIte]; exact ha
  have hpl1 : gI (sI P 0 7 (gI P 0 4)) 0 7 = iI p := by simp only [gI_sI, gI_sL, gI_sA, gI_sB, gI_sO, gI_sR, gI_sW, gL_sI, gL_sL, gL_sA, gL_sB, gL_sO, gL_sR, gL_sW, gA_sI, gA_sL, gA_sA, gA_sB, gA_sO, gA_sR, gB_sI, gB_sL, gB_sA, gB_sB, gB_sO, gB_sR, gB_sW, gO_sI, gO_sL, gO_sA, gO_sB, gO_sO, gO_sR, gO_sW, gR_sI, gR_sL, gR_sA, gR_sB, gR_sO, gR_sR, gR_sW, gN_sI, gN_sL, gN_sA, gN_sB, gN_sO, gN_sR, gN_sW, if_true, if_false, Nat.reduceEqDiff, reduceIte]; exact ha
  generalize sI P 0 7 (gI P 0 4) = P1 at *
  refine M_here0 ht1 ha1 (by omega) (fun hlt hb0 hb1 => ?_) (fun hge => ?_)
  · dsimp only [hx1, rI]
    have hnn : ¬ n ≤ p := by omega
    have hf2 : Fr tkI [9] [] [] P0 (sI (sL P1 0 9 (0 : Int64)) 0 8 (0 : Int32)) := (hf1.sL (by simp)).sI (by simp [tkI])
    have ht2 : TxM r b n (sI (sL P1 0 9 (0 : Int64)) 0 8 (0 : Int32)) := ht1.fr (Fr.sI (is := [8]) (ls := [9]) (as := []) (bs := []) (Fr.sL Fr.rf (by simp)) (by simp)) (by simp) (by simp) (by simp)
    refine ⟨fun _ => M_isLetter (by omega) (by omega) (fun hl => ?_) (fun hl => ?_), fun c => absurd ?_ c⟩
    · dsimp only [hx1, rI]
      refine ⟨fun q => absurd q (by decide), fun _ => ?_⟩
      refine M_tk78 (P0 := sI (sL P1 0 9 (0 : Int64)) 0 8 (0 : Int32)) (r := r) hp (fun P' hf' hs' hw' => h P' (hf2.trs (hf'.mono (by simp [tkI]) (by simp) (by simp) (by simp))) ?_) (n - p) 0 _ (by omega) (by omega) Fr.rf ht2 (by simp only [gI_sI, gI_sL, gI_sA, gI_sB, gI_sO, gI_sR, gI_sW, gL_sI, gL_sL, gL_sA, gL_sB, gL_sO, gL_sR, gL_sW, gA_sI, gA_sL, gA_sA, gA_sB, gA_sO, gA_sR, gB_sI, gB_sL, gB_sA, gB_sB, gB_sO, gB_sR, gB_sW, gO_sI, gO_sL, gO_sA, gO_sB, gO_sO, gO_sR, gO_sW, gR_sI, gR_sL, gR_sA, gR_sB, gR_sO, gR_sR, gR_sW, gN_sI, gN_sL, gN_sA, gN_sB, gN_sO, gN_sR, gN_sW, if_true, if_false, Nat.reduceEqDiff, reduceIte]; exact ha1) (fun j hj => by omega) (fun _ => by simp only [gI_sI, gI_sL, gI_sA, gI_sB, gI_sO, gI_sR, gI_sW, gL_sI, gL_sL, gL_sA, gL_sB, gL_sO, gL_sR, gL_sW, gA_sI, gA_sL, gA_sA, gA_sB, gA_sO, gA_sR, gB_sI, gB_sL, gB_sA, gB_sB, gB_sO, gB_sR, gB_sW, gO_sI, gO_sL, gO_sA, gO_sB, gO_sO, gO_sR, gO_sW, gR_sI, gR_sL, gR_sA, gR_sB, gR_sO, gR_sR, gR_sW, gN_sI, gN_sL, gN_sA, gN_sB, gN_sO, gN_sR, gN_sW, if_true, if_false, Nat.reduceEqDiff, reduceIte]; rfl)
      unfold tok
      rw [← hpq]
      simp only [if_neg hnn, if_pos hl]
      have hpl' : gI P' 0 7 = iI p := by rw [hf'.2.1 _ (by simp)]; simp only [gI_sI, gI_sL, gI_sA, gI_sB, gI_sO, gI_sR, gI_sW, gL_sI, gL_sL, gL_sA, gL_sB, gL_sO, gL_sR, gL_sW, gA_sI, gA_sL, gA_sA, gA_sB, gA_sO, gA_sR, gB_sI, gB_sL, gB_sA, gB_sB, gB_sO, gB_sR, gB_sW, gO_sI, gO_sL, gO_sA, gO_sB, gO_sO, gO_sR, gO_sW, gR_sI, gR_sL, gR_sA, gR_sB, gR_sO, gR_sR, gR_sW, gN_sI, gN_sL, gN_sA, gN_sB, gN_sO, gN_sR, gN_sW, if_true, if_false, Nat.reduceEqDiff, reduceIte]; exact hpl1
      by_cases c8 : 8 < rl ltr b n p
      · rw [if_pos c8] at hs'
        simp only [if_pos c8]
        exact ⟨hs', hpl', fun q => absurd q (by simp), fun q => absurd q (by simp), fun q => absurd rfl q⟩
      · rw [if_neg c8] at hs'
        simp only [if_neg c8]
        exact ⟨hs', hpl', fun q => absurd q (by simp), fun _ => (hw' (by omega)).1, fun _ => (hw' (by omega)).2⟩
    · dsimp only [hx1, rI]
      refine ⟨fun _ => M_isDigit (by omega) (by omega) (fun hd => ?_) (fun hd => ?_), fun q => absurd rfl q⟩
      · dsimp only [hx1, rI]
        refine ⟨fun q => absurd q (by decide), fun _ => ?_⟩
        refine M_tk144 (P0 := sI (sL P1 0 9 (0 : Int64)) 0 8 (0 : Int32)) (r := r) hp (fun P' hf' hs' hw' => h P' (hf2.trs (hf'.mono (by simp [tkI]) (by simp) (by simp) (by simp))) ?_) (n - p) 0 _ (by omega) (by omega) Fr.rf ht2 (by simp only [gI_sI, gI_sL, gI_sA, gI_sB, gI_sO, gI_sR, gI_sW, gL_sI, gL_sL, gL_sA, gL_sB, gL_sO, gL_sR, gL_sW, gA_sI, gA_sL, gA_sA, gA_sB, gA_sO, gA_sR, gB_sI, gB_sL, gB_sA, gB_sB, gB_sO, gB_sR, gB_sW, gO_sI, gO_sL, gO_sA, gO_sB, gO_sO, gO_sR, gO_sW, gR_sI, gR_sL, gR_sA, gR_sB, gR_sO, gR_sR, gR_sW, gN_sI, gN_sL, gN_sA, gN_sB, gN_sO, gN_sR, gN_sW, if_true, if_false, Nat.reduceEqDiff, reduceIte]; exact ha1) (fun j hj => by omega) (fun _ => by simp only [gI_sI, gI_sL, gI_sA, gI_sB, gI_sO, gI_sR, gI_sW, gL_sI, gL_sL, gL_sA, gL_sB, gL_sO, gL_sR, gL_sW, gA_sI, gA_sL, gA_sA, gA_sB, gA_sO, gA_sR, gB_sI, gB_sL, gB_sA, gB_sB, gB_sO, gB_sR, gB_sW, gO_sI, gO_sL, gO_sA, gO_sB, gO_sO, gO_sR, gO_sW, gR_sI, gR_sL, gR_sA, gR_sB, gR_sO, gR_sR, gR_sW, gN_sI, gN_sL, gN_sA, gN_sB, gN_sO, gN_sR, gN_sW, if_true, if_false, Nat.reduceEqDiff, reduceIte]; rfl)
        unfold tok
        rw [← hpq]
        simp only [if_neg hnn, hl, hd, Bool.false_eq_true, if_false, if_true]
        have hpl' : gI P' 0 7 = iI p := by rw [hf'.2.1 _ (by simp)]; simp only [gI_sI, gI_sL, gI_sA, gI_sB, gI_sO, gI_sR, gI_sW, gL_sI, gL_sL, gL_sA, gL_sB, gL_sO, gL_sR, gL_sW, gA_sI, gA_sL, gA_sA, gA_sB, gA_sO, gA_sR, gB_sI, gB_sL, gB_sA, gB_sB, gB_sO, gB_sR, gB_sW, gO_sI, gO_sL, gO_sA, gO_sB, gO_sO, gO_sR, gO_sW, gR_sI, gR_sL, gR_sA, gR_sB, gR_sO, gR_sR, gR_sW, gN_sI, gN_sL, gN_sA, gN_sB, gN_sO, gN_sR, gN_sW, if_true, if_false, Nat.reduceEqDiff, reduceIte]; exact hpl1
        by_cases c4 : 4 < rl dig b n p ∨ (p + rl dig b n p < n ∧ ltr (b (p + rl dig b n p)) = true)
        · rw [if_pos c4] at hs'
          simp only [if_pos c4]
          exact ⟨hs', hpl', fun q => absurd q (by simp), fun q => absurd q (by simp), fun q => absurd rfl q⟩
        · rw [if_neg c4] at hs'
          simp only [if_neg c4]
          exact ⟨hs', hpl', fun _ => (hw' c4).1, fun q => absurd q (by simp), fun _ => (hw' c4).2⟩
      · dsimp only [hx1, rI]
        refine ⟨fun _ => M_isSign (r := r) (by omega) (by omega) ht2.1 (fun hg => ?_) (fun hg => ?_), fun q => absurd rfl q⟩
        · dsimp only [hx1, rI]
          have hne3 : ¬ iI (b p) = (3 : Int32) := by
            rw [iI_lit, iI_eq (by omega) (by omega) (by omega) (by omega)]
            intro e
            rw [e] at hg
            revert hg
            cases r <;> decide
          refine ⟨fun q => absurd q (by decide), fun _ => ⟨fun q => absurd q hne3, fun _ => h _ ((hf2.sI (by simp [tkI])).sI (by simp [tkI])) ?_⟩⟩
          unfold tok
          rw [← hpq]
          simp only [if_neg hnn, hl, hd, hg, Bool.false_eq_true, if_false, if_true]
          refine ⟨?_, ?_, fun q => absurd q (by simp), fun q => absurd q (by simp), fun _ => ?_⟩
          · rfl
          · exact hpl1
          · show gI P1 0 4 + 1 = iI ((p + 1 : Nat) : Int); rw [ha1, iI_lit, iI_add]; rfl
        · dsimp only [hx1, rI]
          refine ⟨fun _ => ⟨fun _ => h _ (hf2.sI (by simp [tkI])) ?_, fun q => absurd rfl q⟩, fun q => absurd rfl q⟩
          unfold tok
          rw [← hpq]
          simp only [if_neg hnn, hl, hd, hg, Bool.false_eq_true, if_false, if_true]
          refine ⟨?_, ?_, fun q => absurd q (by simp), fun q => absurd q (by simp), fun q => absurd rfl q⟩
          · simp only [gI_sI, gI_sL, gI_sA, gI_sB, gI_sO, gI_sR, gI_sW, gL_sI, gL_sL, gL_sA, gL_sB, gL_sO, gL_sR, gL_sW, gA_sI, gA_sL, gA_sA, gA_sB, gA_sO, gA_sR, gB_sI, gB_sL, gB_sA, gB_sB, gB_sO, gB_sR, gB_sW, gO_sI, gO_sL, gO_sA, gO_sB, gO_sO, gO_sR, gO_sW, gR_sI, gR_sL, gR_sA, gR_sB, gR_sO, gR_sR, gR_sW, gN_sI, gN_sL, gN_sA, gN_sB, gN_sO, gN_sR, gN_sW, if_true, if_false, Nat.reduceEqDiff, reduceIte]; rfl
          · simp only [gI_sI, gI_sL, gI_sA, gI_sB, gI_sO, gI_sR, gI_sW, gL_sI, gL_sL, gL_sA, gL_sB, gL_sO, gL_sR, gL_sW, gA_sI, gA_sL, gA_sA, gA_sB, gA_sO, gA_sR, gB_sI, gB_sL, gB_sA, gB_sB, gB_sO, gB_sR, gB_sW, gO_sI, gO_sL, gO_sA, gO_sB, gO_sO, gO_sR, gO_sW, gR_sI, gR_sL, gR_sA, gR_sB, gR_sO, gR_sR, gR_sW, gN_sI, gN_sL, gN_sA, gN_sB, gN_sO, gN_sR, gN_sW, if_true, if_false, Nat.reduceEqDiff, reduceIte]; exact hpl1
    · rw [show (0 : Int32) = iI 0 from rfl, iI_le (by omega) (by omega) (by omega) (by omega)]; omega
  · dsimp only [hx1, rI]
    have hpn : n ≤ p := by omega
    refine ⟨fun c => absurd c (by decide), fun _ => ⟨fun q => absurd q (by decide), fun _ => ?_⟩⟩
    refine h _ ((((hf1.sL (by simp)).sI (by simp [tkI])).sI (by simp [tkI])).sI (by simp [tkI])) ?_
    unfold tok
    rw [← hpq]
    simp only [if_pos hpn]
    refine ⟨?_, ?_, fun q => absurd q (by simp), fun q => absurd q (by simp), fun _ => ?_⟩
    · simp only [gI_sI, gI_sL, gI_sA, gI_sB, gI_sO, gI_sR, gI_sW, gL_sI, gL_sL, gL_sA, gL_sB, gL_sO, gL_sR, gL_sW, gA_sI, gA_sL, gA_sA, gA_sB, gA_sO, gA_sR, gB_sI, gB_sL, gB_sA, gB_sB, gB_sO, gB_sR, gB_sW, gO_sI, gO_sL, gO_sA, gO_sB, gO_sO, gO_sR, gO_sW, gR_sI, gR_sL, gR_sA, gR_sB, gR_sO, gR_sR, gR_sW, gN_sI, gN_sL, gN_sA, gN_sB, gN_sO, gN_sR, gN_sW, if_true, if_false, Nat.reduceEqDiff, reduceIte]; rfl
    · simp only [gI_sI, gI_sL, gI_sA, gI_sB, gI_sO, gI_sR, gI_sW, gL_sI, gL_sL, gL_sA, gL_sB, gL_sO, gL_sR, gL_sW, gA_sI, gA_sL, gA_sA, gA_sB, gA_sO, gA_sR, gB_sI, gB_sL, gB_sA, gB_sB, gB_sO, gB_sR, gB_sW, gO_sI, gO_sL, gO_sA, gO_sB, gO_sO, gO_sR, gO_sW, gR_sI, gR_sL, gR_sA, gR_sB, gR_sO, gR_sR, gR_sW, gN_sI, gN_sL, gN_sA, gN_sB, gN_sO, gN_sR, gN_sW, if_true, if_false, Nat.reduceEqDiff, reduceIte]; exact hpl1
    · show gI P1 0 4 + 0 = iI p; rw [ha1, iI_lit, iI_add]; exact congrArg iI (Int.add_zero _)
/-- the next TOKEN -/
theorem M_tk0 {d : Nat} {r : Bool} {b : Nat → Int} {n q : Nat} {P0 : PS} {R : List PS} {Q : Option AV → List PS → Prop} (hq : q ≤ n)
    (h : ∀ P', Fr tkI [9] [] [] P0 P' → TkM (tok r b n q) P' → Q none (P' :: R)) :
    ∀ (m k : Nat) (P : PS), n - (q + k) ≤ m → q + k ≤ n → Fr tkI [9] [] [] P0 P → TxM r b n P → gI P 0 4 = iI ((q + k : Nat) : Int) → (∀ j, j < k → q + j < n ∧ blk (b (q + j)) = true) → cX12_token_0 (0, 0, 0, 0) d P R Q := by
  intro m
  induction m with
  | zero =>
    intro k P hm hk hf ht ha hj
    have hn15 := ht.2.2.1
    have he := rl_eq (p := blk) ⟨hj, fun q => by omega⟩
    refine gX12_token_0 ?_
    unfold fX12_token_0
    refine M_here0 ht ha (by omega) (fun q => by omega) (fun _ => ?_)
    dsimp only [hx1, rI]
    refine ⟨fun c => absurd c (by decide), fun _ => M_here0 ht ha (by omega) (fun q => by omega) (fun _ => ?_)⟩
    dsimp only [hx1, rI]
    refine ⟨fun _ => ?_, fun c => absurd c (by decide)⟩
    exact M_tk_on (p := q + k) (by rw [he]) hk hf ht ha h
  | succ m ih =>
    intro k P hm hk hf ht ha hj
    have hn15 := ht.2.2.1
    by_cases hend : n ≤ q + k
    · exact ih k P (by omega) hk hf ht ha hj
    have hstep : blk (b (q + k)) = true → cX12_token_0 (0, 0, 0, 0) d (sI P 0 4 ((gI P 0 4) + (1 : Int32))) R Q := fun hb => by
      refine ih (k + 1) _ (by omega) (by omega) (hf.sI (by simp [tkI])) (ht.fr (Fr.sI (is := [4]) (ls := []) (as := []) (bs := []) Fr.rf (by simp)) (by simp) (by simp) (by simp)) ?_ (fun j hj' => by
        rcases Nat.lt_succ_iff_lt_or_eq.mp hj' with c | c
        · exact hj j c
        · rw [c]; exact ⟨by omega, hb⟩)
      show gI P 0 4 + 1 = _
      rw [ha, iI_lit, iI_add]; rfl
    refine gX12_token_0 ?_
    unfold fX12_token_0
    refine M_here0 ht ha (by omega) (fun hlt hb0 hb1 => ?_) (fun c => by omega)
    dsimp only [hx1, rI]
    rw [show (32 : Int32) = iI 32 from rfl, show (10 : Int32) = iI 10 from rfl, eqc (by omega) (by omega) (by omega) (by omega)]
    refine ⟨fun c => hstep (by simp [blk, c]), fun c1 => M_here0 ht ha (by omega) (fun _ _ _ => ?_) (fun c => by omega)⟩
    dsimp only [hx1, rI]
    rw [eqc (by omega) (by omega) (by omega) (by omega)]
    refine ⟨fun c2 => ?_, fun c => hstep (by simp [blk, c])⟩
    have he := rl_eq (p := blk) ⟨hj, fun c => by
      have := c.2
      simp [blk, c1, c2] at this⟩
    exact M_tk_on (p := q + k) (by rw [he]) hk hf ht ha h
theorem M_token {d : Nat} {r : Bool} {b : Nat → Int} {n q : Nat} {P : PS} {R : List PS} {Q : Option AV → List PS → Prop} (ht : TxM r b n P) (ha : gI P 0 4 = iI q) (hq : q ≤ n)
    (h : ∀ P', Fr tkI [9] [] [] P P' → TkM (tok r b n q) P' → Q none (P' :: R)) : Tri 178 (d + 1) [vR 0 0 0] (P :: R) Q :=
  enX12_token (M_tk0 hq h (n - q) 0 P (by omega) (by omega) Fr.rf ht ha (fun j hj => by omega))
