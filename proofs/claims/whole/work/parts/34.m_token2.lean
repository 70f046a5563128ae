theorem lst_succ (b : Nat → Int) (i k : Nat) : lst b i (k + 1) = lst b i k ++ [b (i + k)] := by
  unfold lst; rw [List.range_succ, List.map_append]; rfl
theorem p256_snoc (l : List Int) (c : Int) : p256 (l ++ [c]) = p256 l * 256 + c := by
  unfold p256; rw [List.foldl_append]; rfl
theorem p32_snoc (l : List Int) (c : Int) : p32 (l ++ [c]) = p32 l * 32 + (c - 96) := by
  unfold p32; rw [List.foldl_append]; rfl
theorem p256_lst {b : Nat → Int} {i : Nat} : ∀ {k : Nat}, (∀ j, j < k → 0 ≤ b (i + j) ∧ b (i + j) < 256) → 0 ≤ p256 (lst b i k) ∧ p256 (lst b i k) < 256 ^ k
  | 0, _ => ⟨Int.le_refl 0, (by decide : (0 : Int) < 256 ^ 0)⟩
  | k + 1, h => by
    have ih := p256_lst (k := k) (fun j hj => h j (by omega))
    have hk := h k (by omega)
    rw [lst_succ, p256_snoc, Int.pow_succ]
    omega
theorem dv_bd {b : Nat → Int} {i : Nat} : ∀ {k : Nat}, (∀ j, j < k → dig (b (i + j)) = true) → 0 ≤ dv b i k ∧ dv b i k < 10 ^ k
  | 0, _ => ⟨Int.le_refl 0, (by decide : (0 : Int) < 10 ^ 0)⟩
  | k + 1, h => by
    have ih := dv_bd (k := k) (fun j hj => h j (by omega))
    have hk := h k (by omega)
    simp only [dig, Bool.and_eq_true, decide_eq_true_eq] at hk
    rw [dv, Int.pow_succ]
    omega
theorem ltr_bd {c : Int} (h : ltr c = true) : 97 ≤ c ∧ c ≤ 122 := by simpa [ltr] using h
theorem dig_bd {c : Int} (h : dig c = true) : 48 ≤ c ∧ c ≤ 57 := by simpa [dig] using h
theorem Fr.sI {is ls as bs : List Nat} {P P' : PS} {a : Nat} {v : Int32} (h : Fr is ls as bs P P') (ha : a ∈ is) : Fr is ls as bs P (sI P' 0 a v) :=
  ⟨h.1, fun q hq => by rw [gI_sI, if_neg (fun e : q = a => hq (by rw [e]; exact ha))]; exact h.2.1 q hq, h.2.2.1, h.2.2.2.1, h.2.2.2.2⟩
theorem Fr.sL {is ls as bs : List Nat} {P P' : PS} {a : Nat} {v : Int64} (h : Fr is ls as bs P P') (ha : a ∈ ls) : Fr is ls as bs P (sL P' 0 a v) :=
  ⟨h.1, h.2.1, fun q hq => by rw [gL_sL, if_neg (fun e : q = a => hq (by rw [e]; exact ha))]; exact h.2.2.1 q hq, h.2.2.2.1, h.2.2.2.2⟩
theorem Fr.sA {is ls as bs : List Nat} {P P' : PS} {a i : Nat} {v : Int32} (h : Fr is ls as bs P P') (ha : a ∈ as) : Fr is ls as bs P (sA P' 0 a i v) :=
  ⟨h.1, h.2.1, h.2.2.1, fun q k hq => by rw [gA_sA, if_neg (fun e : q = a => hq (by rw [e]; exact ha))]; exact h.2.2.2.1 q k hq, h.2.2.2.2⟩
theorem Fr.sB {is ls as bs : List Nat} {P P' : PS} {a i : Nat} {v : Int64} (h : Fr is ls as bs P P') (ha : a ∈ bs) : Fr is ls as bs P (sB P' 0 a i v) :=
  ⟨h.1, h.2.1, h.2.2.1, h.2.2.2.1, fun q k hq => by rw [gB_sB, if_neg (fun e : q = a => hq (by rw [e]; exact ha))]; exact h.2.2.2.2 q k hq⟩
/-- the letters of a word -/
theorem M_tk78 {z : Nat × Nat × Nat × Nat} {d : Nat} {r : Bool} {b : Nat → Int} {n p : Nat} {P0 : PS} {R : List PS} {Q : Option AV → List PS → Prop} (hp : p ≤ n)
    (h : ∀ P', Fr [4, 6] [9] [] [] P0 P' → gI P' 0 6 = iI (if 8 < rl ltr b n p then 3 else 1) → (rl ltr b n p ≤ 8 → gL P' 0 9 = iL (p256 (lst b p (rl ltr b n p))) ∧ gI P' 0 4 = iI ((p + rl ltr b n p : Nat) : Int)) → Q none (P' :: R)) :
    ∀ (m k : Nat) (P : PS), n - (p + k) ≤ m → p + k ≤ n → Fr [4, 6] [9] [] [] P0 P → TxM r b n P → gI P 0 4 = iI p → (∀ j, j < k → p + j < n ∧ ltr (b (p + j)) = true) → (k ≤ 8 → gL P 0 9 = iL (p256 (lst b p k))) → cX12_token_78 z d (iI k) P R Q := by
  intro m
  induction m with
  | zero =>
    intro k P hm hk hf ht ha hj hw
    have hrun : IsRun ltr b n p k := ⟨hj, fun q => by omega⟩
    have he := rl_eq hrun
    refine gX12_token_78 ?_
    unfold fX12_token_78
    refine M_here (k := k) ht ha (by have := ht.2.2.1; omega) (fun q => by omega) (fun _ => ?_)
    dsimp only [hx1, rI]
    refine M_isLetter (by omega) (by omega) (fun q => by simp [ltr] at q) (fun _ => ?_)
    dsimp only [hx1, rI]
    refine ⟨fun _ => ⟨fun c => ⟨fun q => absurd q (by decide), fun _ => ?_⟩, fun c => ⟨fun _ => ?_, fun q => absurd rfl q⟩⟩, fun q => absurd rfl q⟩
    · rw [iI_lit, iI_le (by omega) (by have := ht.2.2.1; omega) (by omega) (by omega)] at c
      refine h _ ((hf.sI (by simp)).sI (by simp)) ?_ (fun _ => ⟨?_, ?_⟩)
      · simp only [gI_sI, gI_sL, gI_sA, gI_sB, gI_sO, gI_sR, gI_sW, gL_sI, gL_sL, gL_sA, gL_sB, gL_sO, gL_sR, gL_sW, gA_sI, gA_sL, gA_sA, gA_sB, gA_sO, gA_sR, gB_sI, gB_sL, gB_sA, gB_sB, gB_sO, gB_sR, gB_sW, gO_sI, gO_sL, gO_sA, gO_sB, gO_sO, gO_sR, gO_sW, gR_sI, gR_sL, gR_sA, gR_sB, gR_sO, gR_sR, gR_sW, gN_sI, gN_sL, gN_sA, gN_sB, gN_sO, gN_sR, gN_sW, if_true, if_false, Nat.reduceEqDiff, reduceIte]; rw [he, if_neg (show ¬ 8 < k by omega)]; rfl
      · simp only [gI_sI, gI_sL, gI_sA, gI_sB, gI_sO, gI_sR, gI_sW, gL_sI, gL_sL, gL_sA, gL_sB, gL_sO, gL_sR, gL_sW, gA_sI, gA_sL, gA_sA, gA_sB, gA_sO, gA_sR, gB_sI, gB_sL, gB_sA, gB_sB, gB_sO, gB_sR, gB_sW, gO_sI, gO_sL, gO_sA, gO_sB, gO_sO, gO_sR, gO_sW, gR_sI, gR_sL, gR_sA, gR_sB, gR_sO, gR_sR, gR_sW, gN_sI, gN_sL, gN_sA, gN_sB, gN_sO, gN_sR, gN_sW, if_true, if_false, Nat.reduceEqDiff, reduceIte]; rw [he]; exact hw (by omega)
      · simp only [gI_sI, gI_sL, gI_sA, gI_sB, gI_sO, gI_sR, gI_sW, gL_sI, gL_sL, gL_sA, gL_sB, gL_sO, gL_sR, gL_sW, gA_sI, gA_sL, gA_sA, gA_sB, gA_sO, gA_sR, gB_sI, gB_sL, gB_sA, gB_sB, gB_sO, gB_sR, gB_sW, gO_sI, gO_sL, gO_sA, gO_sB, gO_sO, gO_sR, gO_sW, gR_sI, gR_sL, gR_sA, gR_sB, gR_sO, gR_sR, gR_sW, gN_sI, gN_sL, gN_sA, gN_sB, gN_sO, gN_sR, gN_sW, if_true, if_false, Nat.reduceEqDiff, reduceIte]; rw [ha, iI_add, he]; congr 1
    · rw [iI_lit, iI_le (by omega) (by have := ht.2.2.1; omega) (by omega) (by omega)] at c
      refine h _ (hf.sI (by simp)) ?_ (fun q => by omega)
      simp only [gI_sI, gI_sL, gI_sA, gI_sB, gI_sO, gI_sR, gI_sW, gL_sI, gL_sL, gL_sA, gL_sB, gL_sO, gL_sR, gL_sW, gA_sI, gA_sL, gA_sA, gA_sB, gA_sO, gA_sR, gB_sI, gB_sL, gB_sA, gB_sB, gB_sO, gB_sR, gB_sW, gO_sI, gO_sL, gO_sA, gO_sB, gO_sO, gO_sR, gO_sW, gR_sI, gR_sL, gR_sA, gR_sB, gR_sO, gR_sR, gR_sW, gN_sI, gN_sL, gN_sA, gN_sB, gN_sO, gN_sR, gN_sW, if_true, if_false, Nat.reduceEqDiff, reduceIte]; rw [he, if_pos (show 8 < k by omega)]; rfl
  | succ m ih =>
    intro k P hm hk hf ht ha hj hw
    refine gX12_token_78 ?_
    unfold fX12_token_78
    have hstop : ¬ (p + k < n ∧ ltr (b (p + k)) = true) → ((iI k ≤ (8 : Int32) → ((1 : Int32) = (3 : Int32) → Q none ((sI P 0 6 (1 : Int32)) :: R)) ∧ (¬ (1 : Int32) = (3 : Int32) → Q none ((sI (sI P 0 6 (1 : Int32)) 0 4 ((gI P 0 4) + iI k)) :: R))) ∧ (¬ iI k ≤ (8 : Int32) → ((3 : Int32) = (3 : Int32) → Q none ((sI P 0 6 (3 : Int32)) :: R)) ∧ (¬ (3 : Int32) = (3 : Int32) → Q none ((sI (sI P 0 6 (3 : Int32)) 0 4 ((gI P 0 4) + iI k)) :: R)))) := by
      intro hno
      have he := rl_eq ⟨hj, hno⟩
      refine ⟨fun c => ⟨fun q => absurd q (by decide), fun _ => ?_⟩, fun c => ⟨fun _ => ?_, fun q => absurd rfl q⟩⟩
      · rw [iI_lit, iI_le (by omega) (by have := ht.2.2.1; omega) (by omega) (by omega)] at c
        refine h _ ((hf.sI (by simp)).sI (by simp)) ?_ (fun _ => ⟨?_, ?_⟩)
        · simp only [gI_sI, gI_sL, gI_sA, gI_sB, gI_sO, gI_sR, gI_sW, gL_sI, gL_sL, gL_sA, gL_sB, gL_sO, gL_sR, gL_sW, gA_sI, gA_sL, gA_sA, gA_sB, gA_sO, gA_sR, gB_sI, gB_sL, gB_sA, gB_sB, gB_sO, gB_sR, gB_sW, gO_sI, gO_sL, gO_sA, gO_sB, gO_sO, gO_sR, gO_sW, gR_sI, gR_sL, gR_sA, gR_sB, gR_sO, gR_sR, gR_sW, gN_sI, gN_sL, gN_sA, gN_sB, gN_sO, gN_sR, gN_sW, if_true, if_false, Nat.reduceEqDiff, reduceIte]; rw [he, if_neg (show ¬ 8 < k by omega)]; rfl
        · simp only [gI_sI, gI_sL, gI_sA, gI_sB, gI_sO, gI_sR, gI_sW, gL_sI, gL_sL, gL_sA, gL_sB, gL_sO, gL_sR, gL_sW, gA_sI, gA_sL, gA_sA, gA_sB, gA_sO, gA_sR, gB_sI, gB_sL, gB_sA, gB_sB, gB_sO, gB_sR, gB_sW, gO_sI, gO_sL, gO_sA, gO_sB, gO_sO, gO_sR, gO_sW, gR_sI, gR_sL, gR_sA, gR_sB, gR_sO, gR_sR, gR_sW, gN_sI, gN_sL, gN_sA, gN_sB, gN_sO, gN_sR, gN_sW, if_true, if_false, Nat.reduceEqDiff, reduceIte]; rw [he]; exact hw (by omega)
        · simp only [gI_sI, gI_sL, gI_sA, gI_sB, gI_sO, gI_sR, gI_sW, gL_sI, gL_sL, gL_sA, gL_sB, gL_sO, gL_sR, gL_sW, gA_sI, gA_sL, gA_sA, gA_sB, gA_sO, gA_sR, gB_sI, gB_sL, gB_sA, gB_sB, gB_sO, gB_sR, gB_sW, gO_sI, gO_sL, gO_sA, gO_sB, gO_sO, gO_sR, gO_sW, gR_sI, gR_sL, gR_sA, gR_sB, gR_sO, gR_sR, gR_sW, gN_sI, gN_sL, gN_sA, gN_sB, gN_sO, gN_sR, gN_sW, if_true, if_false, Nat.reduceEqDiff, reduceIte]; rw [ha, iI_add, he]; congr 1
      · rw [iI_lit, iI_le (by omega) (by have := ht.2.2.1; omega) (by omega) (by omega)] at c
        refine h _ (hf.sI (by simp)) ?_ (fun q => by omega)
        simp only [gI_sI, gI_sL, gI_sA, gI_sB, gI_sO, gI_sR, gI_sW, gL_sI, gL_sL, gL_sA, gL_sB, gL_sO, gL_sR, gL_sW, gA_sI, gA_sL, gA_sA, gA_sB, gA_sO, gA_sR, gB_sI, gB_sL, gB_sA, gB_sB, gB_sO, gB_sR, gB_sW, gO_sI, gO_sL, gO_sA, gO_sB, gO_sO, gO_sR, gO_sW, gR_sI, gR_sL, gR_sA, gR_sB, gR_sO, gR_sR, gR_sW, gN_sI, gN_sL, gN_sA, gN_sB, gN_sO, gN_sR, gN_sW, if_true, if_false, Nat.reduceEqDiff, reduceIte]; rw [he, if_pos (show 8 < k by omega)]; rfl
    refine M_here (k := k) ht ha (by have := ht.2.2.1; omega) (fun hlt hb0 hb1 => ?_) (fun hge => ?_)
    · dsimp only [hx1, rI]
      refine M_isLetter (by omega) (by omega) (fun hl => ?_) (fun hl => ?_)
      · dsimp only [hx1, rI]
        refine ⟨fun q => absurd q (by decide), fun _ => ⟨fun c => ?_, fun c => ?_⟩⟩
        · rw [iI_lit, iI_le (by omega) (by omega) (by omega) (by have := ht.2.2.1; omega)] at c
          rw [iI_lit, iI_add]
          exact ih (k + 1) P (by omega) (by omega) hf ht ha (fun j hj' => by
            rcases Nat.lt_succ_iff_lt_or_eq.mp hj' with q | q
            · exact hj j q
            · rw [q]; exact ⟨hlt, hl⟩) (fun q => by omega)
        · rw [iI_lit, iI_le (by omega) (by omega) (by omega) (by have := ht.2.2.1; omega)] at c
          refine M_here (k := k) ht ha (by have := ht.2.2.1; omega) (fun _ _ _ => ?_) (fun q => by omega)
          dsimp only [hx1, rI]
          rw [iI_l (by omega) (by omega), hw (by omega)]
          have hpb := p256_lst (b := b) (i := p) (k := k) (fun j hj' => by have := ltr_bd (hj j hj').2; omega)
          have hpw : (256 : Int) ^ k ≤ 72057594037927936 := by
            have : k ≤ 7 := by omega
            have h2 : (256 : Nat) ^ k ≤ 256 ^ 7 := Nat.pow_le_pow_right (by omega) this
            have h3 : ((256 ^ k : Nat) : Int) ≤ ((256 ^ 7 : Nat) : Int) := Int.ofNat_le.mpr h2
            simpa using h3
          rw [l_shl8 hpb.1 (by omega) hb0 hb1, iI_lit, iI_add]
          refine ih (k + 1) _ (by omega) (by omega) (hf.sL (by simp)) (ht.fr (Fr.sL (is := []) (ls := [9]) (as := []) (bs := []) Fr.rf (by simp)) (by simp) (by simp) (by simp)) (by simp only [gI_sI, gI_sL, gI_sA, gI_sB, gI_sO, gI_sR, gI_sW, gL_sI, gL_sL, gL_sA, gL_sB, gL_sO, gL_sR, gL_sW, gA_sI, gA_sL, gA_sA, gA_sB, gA_sO, gA_sR, gB_sI, gB_sL, gB_sA, gB_sB, gB_sO, gB_sR, gB_sW, gO_sI, gO_sL, gO_sA, gO_sB, gO_sO, gO_sR, gO_sW, gR_sI, gR_sL, gR_sA, gR_sB, gR_sO, gR_sR, gR_sW, gN_sI, gN_sL, gN_sA, gN_sB, gN_sO, gN_sR, gN_sW, if_true, if_false, Nat.reduceEqDiff, reduceIte]; exact ha) (fun j hj' => by
            rcases Nat.lt_succ_iff_lt_or_eq.mp hj' with q | q
            · exact hj j q
            · rw [q]; exact ⟨hlt, hl⟩) (fun _ => ?_)
          simp only [gI_sI, gI_sL, gI_sA, gI_sB, gI_sO, gI_sR, gI_sW, gL_sI, gL_sL, gL_sA, gL_sB, gL_sO, gL_sR, gL_sW, gA_sI, gA_sL, gA_sA, gA_sB, gA_sO, gA_sR, gB_sI, gB_sL, gB_sA, gB_sB, gB_sO, gB_sR, gB_sW, gO_sI, gO_sL, gO_sA, gO_sB, gO_sO, gO_sR, gO_sW, gR_sI, gR_sL, gR_sA, gR_sB, gR_sO, gR_sR, gR_sW, gN_sI, gN_sL, gN_sA, gN_sB, gN_sO, gN_sR, gN_sW, if_true, if_false, Nat.reduceEqDiff, reduceIte]
          rw [lst_succ, p256_snoc]
      · dsimp only [hx1, rI]
        exact ⟨fun _ => hstop (fun q => by rw [hl] at q; exact absurd q.2 (by decide)), fun q => absurd rfl q⟩
    · dsimp only [hx1, rI]
      refine M_isLetter (by omega) (by omega) (fun q => by simp [ltr] at q) (fun _ => ?_)
      dsimp only [hx1, rI]
      exact ⟨fun _ => hstop (fun q => by omega), fun q => absurd rfl q⟩
