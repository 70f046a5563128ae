/-! ===== what a PICTURE's text says, both sides ===== -/
def picS (b : Nat → Int) (n w : Nat) : Nat → Nat → Nat → Nat → (Nat → Int) → Except PE (Nat → Int)
  | 0, _, row, _, L => if row = w then .ok L else .error (((2 : Int), ((n : Nat) : Int)) : PE)
  | m + 1, k, row, col, L => if blk (b k) = true then picS b n w m (k + 1) row col L else if ¬ (b k = 59 ∨ dig (b k) = true) then .error (1, (k : Nat)) else if row = w ∨ (b k = 59 ∧ col < w) ∨ (b k ≠ 59 ∧ col = w) then .error (2, (k : Nat)) else if b k = 59 then picS b n w m (k + 1) (row + 1) 0 L else picS b n w m (k + 1) row (col + 1) (upZ L (16 * row + col) (b k - 48))
theorem picS_ok {b : Nat → Int} {n w : Nat} (hw : w ≤ 16) : ∀ (m k row col : Nat) (L L' : Nat → Int), row ≤ w → col ≤ w → LOK L → (∀ i, (w ≤ i % 16 ∨ w ≤ i / 16) → L i = 0) → picS b n w m k row col L = .ok L' → LOK L' ∧ ∀ i, (w ≤ i % 16 ∨ w ≤ i / 16) → L' i = 0
  | 0, k, row, col, L, L', _, _, h1, h2, h => by
    unfold picS at h
    split at h
    · cases h; exact ⟨h1, h2⟩
    · cases h
  | m + 1, k, row, col, L, L', hr, hc, h1, h2, h => by
    unfold picS at h
    split at h
    · exact picS_ok hw m _ _ _ _ _ hr hc h1 h2 h
    · split at h
      · cases h
      · rename_i c1
        split at h
        · cases h
        · rename_i c2
          split at h
          · exact picS_ok hw m _ _ _ _ _ (by omega) (by omega) h1 h2 h
          · rename_i c3
            have cd : dig (b k) = true := by
              rcases Decidable.not_not.mp c1 with q | q
              · exact absurd q c3
              · exact q
            have bd := dig_bd cd
            refine picS_ok hw m _ _ _ _ _ hr (by omega) (fun i => ?_) (fun i hi => ?_) h
            · unfold upZ; have := h1 i; split <;> omega
            · unfold upZ
              rw [if_neg (by omega)]
              exact h2 i hi
/-! the Model -/
abbrev rpI : List Nat := [6, 7]
abbrev rpJ : List Nat := [6, 7, 2, 3]
theorem M_rpf {d k : Nat} {x y v : Int32} {e : PE} {P : PS} {R : List PS} {Q : Option AV → List PS → Prop} (hf : FaM e P) (h : Q none (P :: R)) : cX12_readPicture_14 (0, 0, 0, 0) d x y v (iI (k : Nat)) P R Q := by
  have hp : 0 < gI P 0 2 := by rw [hf.1, show (0 : Int32) = iI 0 from rfl, iI_lt (by omega) (by omega) (by have := hf.2.2; omega) (by have := hf.2.2; omega)]; have := hf.2.2; omega
  have hz : ¬ gI P 0 2 = 0 := by rw [hf.1, show (0 : Int32) = iI 0 from rfl, iI_eq (by have := hf.2.2; omega) (by have := hf.2.2; omega) (by omega) (by omega)]; have := hf.2.2; omega
  refine gX12_readPicture_14 ?_
  unfold fX12_readPicture_14
  exact ⟨fun _ => ⟨fun _ => h, fun q => absurd hp q⟩, fun _ => ⟨fun _ => ⟨fun _ => h, fun q => absurd hp q⟩, fun q => absurd q hz⟩⟩
theorem M_readPicture {d n w : Nat} {b : Nat → Int} {P : PS} {R : List PS} {Q : Option AV → List PS → Prop} (hn15 : n ≤ 1500) (hs : gI P 0 5 = iI (n : Nat)) (hb : ∀ i, i < n → gA P 0 0 i = iI (b i) ∧ 0 ≤ b i ∧ b i < 256) (hf : gI P 0 2 = iI 0) (ht : gA P 0 12 0 = iI (w : Nat)) (hw : 4 ≤ w ∧ w ≤ 16)
    (hy : ∀ L P', picS b n w n 0 0 0 (fun _ => 0) = .ok L → (∀ r c, r < w → c < w → gA P' 0 24 (16 * r + c) = iI (L (16 * r + c))) → Fr rpI [] [24] [] P P' → Q none (P' :: R))
    (hn : ∀ e P', picS b n w n 0 0 0 (fun _ => 0) = .error e → FaM e P' → Fr rpJ [] [24] [] P P' → Q none (P' :: R)) : Tri 194 (d + 1) [vR 0 0 0] (P :: R) Q := by
  refine enX12_readPicture ?_
  unfold fX12_readPicture_0
  rw [show ((0 : Int32)).toNatClampNeg = 0 from rfl, ht]
  refine ⟨vpk (k := 0) (by omega) (by omega), ?_⟩
  have key : ∀ (m k row col : Nat) (L : Nat → Int) (A : PS), k + m = n → row ≤ w → col ≤ w → Fr rpI [] [24] [] P A → (∀ r c, ((r < row ∧ c < w) ∨ (r = row ∧ c < col)) → gA A 0 24 (16 * r + c) = iI (L (16 * r + c))) → (∀ X, picS b n w m k row col L = X → picS b n w n 0 0 0 (fun _ => 0) = X) → cX12_readPicture_14 (0, 0, 0, 0) d (iI (w : Nat)) (iI (row : Nat)) (iI (col : Nat)) (iI (k : Nat)) A R Q := by
    intro m
    induction m with
    | zero =>
      intro k row col L A hk hr hc fA hA hX
      have f0 : gI A 0 2 = iI 0 := by rw [fA.2.1 _ (by simp)]; exact hf
      have s0 : gI A 0 5 = iI (n : Nat) := by rw [fA.2.1 _ (by simp)]; exact hs
      refine gX12_readPicture_14 ?_
      unfold fX12_readPicture_14
      rw [f0, s0, iI_le (by omega) (by omega) (by omega) (by omega), iI_eq (by omega) (by omega) (by omega) (by omega)]
      refine ⟨fun _ => ⟨fun q => absurd q (by decide), fun _ => ⟨fun q => ?_, fun q => ?_⟩⟩, fun q => absurd (by omega) q⟩
      · refine hn (((2 : Int), ((n : Nat) : Int)) : PE) _ (hX _ ?_) ⟨rfl, rfl, (by decide : (1 : Int) ≤ 2), (by decide : (2 : Int) ≤ 6)⟩ (((fA.mono (by simp) (by simp) (by simp) (by simp)).sI (by simp)).sI (by simp))
        unfold picS; rw [if_neg (by omega)]
      · refine hy L A (hX _ ?_) (fun r c h1 h2 => hA r c (Or.inl ⟨by omega, h2⟩)) fA
        unfold picS; rw [if_pos (by omega)]
    | succ m ih =>
      intro k row col L A hk hr hc fA hA hX
      have f0 : gI A 0 2 = iI 0 := by rw [fA.2.1 _ (by simp)]; exact hf
      have s0 : gI A 0 5 = iI (n : Nat) := by rw [fA.2.1 _ (by simp)]; exact hs
      have bk := hb k (by omega)
      have t0 : gA A 0 0 k = iI (b k) := by rw [fA.2.2.2.1 _ _ (by simp)]; exact bk.1
      have ek : iI (k : Nat) + 1 = iI ((k + 1 : Nat)) := iI_add (k : Nat) 1
      -- a FAULT
      have bad : ∀ (B : PS) (s : Int32) (e : PE), Fr rpI [] [24] [] P B → gI B 0 7 = iI (k : Nat) → gI B 0 6 = s → (s = 3 → e = (((1 : Int), ((k : Nat) : Int)) : PE)) → (¬ s = 3 → e = (((2 : Int), ((k : Nat) : Int)) : PE)) → picS b n w (m + 1) k row col L = .error e → Tri 179 d [vR 0 0 0, vI (2 : Int32)] (B :: R) (fun r2 h2 => hx1 h2 fun P0_2 R_2 => rV r2 (cX12_readPicture_14 (0, 0, 0, 0) d (iI (w : Nat)) (iI (row : Nat)) (iI (col : Nat)) (iI ((k + 1 : Nat))) P0_2 R_2 Q)) := by
        intro B s e fB g7 g6 h3 h2 hp
        have fB0 : gI B 0 2 = iI 0 := by rw [fB.2.1 _ (by simp)]; exact hf
        refine enX12_wrong ?_
        unfold fX12_wrong_0
        rw [fB0, g6, g7]
        refine ⟨fun _ => ⟨fun q => ?_, fun q => ?_⟩, fun q => absurd (by decide) q⟩
        · dsimp only [hx1, rV]
          have he := h2 q
          subst he
          refine M_rpf (e := (((2 : Int), ((k : Nat) : Int)) : PE)) ⟨rfl, rfl, (by decide : (1 : Int) ≤ 2), (by decide : (2 : Int) ≤ 6)⟩ (hn (((2 : Int), ((k : Nat) : Int)) : PE) _ (hX _ hp) ⟨rfl, rfl, (by decide : (1 : Int) ≤ 2), (by decide : (2 : Int) ≤ 6)⟩ (((fB.mono (by simp) (by simp) (by simp) (by simp)).sI (by simp)).sI (by simp)))
        · dsimp only [hx1, rV]
          have he := h3 q
          subst he
          refine M_rpf (e := (((1 : Int), ((k : Nat) : Int)) : PE)) ⟨rfl, rfl, (by decide : (1 : Int) ≤ 1), (by decide : (1 : Int) ≤ 6)⟩ (hn (((1 : Int), ((k : Nat) : Int)) : PE) _ (hX _ hp) ⟨rfl, rfl, (by decide : (1 : Int) ≤ 1), (by decide : (1 : Int) ≤ 6)⟩ (((fB.mono (by simp) (by simp) (by simp) (by simp)).sI (by simp)).sI (by simp)))
      have on67 : ∀ (B : PS) (s : Int32), Fr rpI [] [24] [] P B → gI B 0 7 = iI (k : Nat) → (∀ i, gA B 0 24 i = gA A 0 24 i) → (s = 3 ↔ ¬ (b k = 59 ∨ dig (b k) = true)) → cX12_readPicture_67 (0, 0, 0, 0) d (iI (w : Nat)) (iI (row : Nat)) (iI (col : Nat)) (iI (k : Nat)) (iI (b k)) s B R Q := by
        intro B s fB g7 gr hs3
        have fC : Fr rpI [] [24] [] P (sI B 0 6 s) := fB.sI (by simp)
        have c7 : gI (sI B 0 6 s) 0 7 = iI (k : Nat) := g7
        have c6 : gI (sI B 0 6 s) 0 6 = s := rfl
        have cr : ∀ i, gA (sI B 0 6 s) 0 24 i = gA A 0 24 i := gr
        refine gX12_readPicture_67 ?_
        unfold fX12_readPicture_67
        generalize sI B 0 6 s = C at *
        rw [ek]
        simp (disch := omega) only [show (32 : Int32) = iI 32 from rfl, show (10 : Int32) = iI 10 from rfl, show (59 : Int32) = iI 59 from rfl, iI_eq, iI_lt]
        have skip : blk (b k) = true → cX12_readPicture_14 (0, 0, 0, 0) d (iI (w : Nat)) (iI (row : Nat)) (iI (col : Nat)) (iI ((k + 1 : Nat))) C R Q := fun hbk => ih (k + 1) row col L C (by omega) hr hc fC (fun r c h => by rw [cr]; exact hA r c h) (fun X hX' => hX X (by unfold picS; rw [if_pos hbk]; exact hX'))
        have go132 : blk (b k) = false → (b k = 59 ∨ dig (b k) = true) → ¬ (row = w ∨ (b k = 59 ∧ col < w) ∨ (b k ≠ 59 ∧ col = w)) → cX12_readPicture_132 (0, 0, 0, 0) d (iI (w : Nat)) (iI (row : Nat)) (iI (col : Nat)) (iI (k : Nat)) (iI (b k)) C R Q := by
          intro h1 h2 h3
          refine gX12_readPicture_132 ?_
          unfold fX12_readPicture_132
          have eo : (16 : Int32) * iI (row : Nat) + iI (col : Nat) = iI ((16 * row + col : Nat)) := by rw [show (16 : Int32) = iI 16 from rfl, iI_mul, iI_add]; congr 1
          rw [ek, eo, show iI (col : Nat) + 1 = iI ((col + 1 : Nat)) from iI_add (col : Nat) 1, show iI (row : Nat) + 1 = iI ((row + 1 : Nat)) from iI_add (row : Nat) 1, iI_cl (a := ((16 * row + col : Nat) : Int)) (by omega) (by omega), Int.toNat_natCast, show (59 : Int32) = iI 59 from rfl, iI_eq (by omega) (by omega) (by omega) (by omega), show (48 : Int32) = iI 48 from rfl, iI_sub]
          refine ⟨fun q => ⟨vpk (by omega) (by omega), ?_⟩, fun q => ?_⟩
          · refine ih (k + 1) row (col + 1) (upZ L (16 * row + col) (b k - 48)) _ (by omega) hr (by omega) (fC.sA (by simp)) (fun r c hrc => ?_) (fun X hX' => hX X ?_)
            · rw [gA_sA, if_pos rfl, if_pos rfl]
              unfold upZ
              by_cases cc : 16 * r + c = 16 * row + col
              · rw [if_pos cc, if_pos cc]
              · rw [if_neg cc, if_neg cc, cr]; exact hA r c (by omega)
            · unfold picS; rw [h1, if_neg (by decide), if_neg (fun g => g h2), if_neg h3, if_neg q]; exact hX'
          · refine ih (k + 1) (row + 1) 0 L C (by omega) (by omega) (by omega) fC (fun r c hrc => ?_) (fun X hX' => hX X ?_)
            · rw [cr]; exact hA r c (by omega)
            · unfold picS; rw [h1, if_neg (by decide), if_neg (fun g => g h2), if_neg h3, if_pos q]; exact hX'
        have ne2 : ¬ (b k = 32) → ¬ (b k = 10) → blk (b k) = false := fun q1 q2 => by unfold blk; rw [decide_eq_false q1, decide_eq_false q2]; rfl
        refine ⟨fun q => skip (by unfold blk; rw [decide_eq_true q]; rfl), fun q1 => ⟨fun q2 => ?_, fun q2 => skip (by unfold blk; rw [decide_eq_true q2]; simp)⟩⟩
        have nb := ne2 q1 q2
        have e2 : (b k = 59 ∨ dig (b k) = true) → (row = w ∨ (b k = 59 ∧ col < w) ∨ (b k ≠ 59 ∧ col = w)) → picS b n w (m + 1) k row col L = .error (((2 : Int), ((k : Nat) : Int)) : PE) := fun h1 h2 => by unfold picS; rw [nb, if_neg (by decide), if_neg (fun g => g h1), if_pos h2]
        refine ⟨fun q3 => bad C s (((1 : Int), ((k : Nat) : Int)) : PE) fC c7 c6 (fun _ => rfl) (fun g => absurd q3 g) (by unfold picS; rw [nb, if_neg (by decide), if_pos (hs3.mp q3)]), fun q3 => ?_⟩
        have ok : b k = 59 ∨ dig (b k) = true := Decidable.not_not.mp (fun g => q3 (hs3.mpr g))
        have bad2 : (row = w ∨ (b k = 59 ∧ col < w) ∨ (b k ≠ 59 ∧ col = w)) → _ := fun g => bad C s (((2 : Int), ((k : Nat) : Int)) : PE) fC c7 c6 (fun g' => absurd g' q3) (fun _ => rfl) (e2 ok g)
        refine ⟨fun q4 => bad2 (by omega), fun q4 => ⟨fun q5 => ⟨fun q6 => absurd q6 q5, fun _ => ⟨fun q6 => go132 nb ok (by omega), fun q6 => bad2 (by omega)⟩⟩, fun q5 => ⟨fun q6 => bad2 (by omega), fun q6 => ⟨fun _ => go132 nb ok (by omega), fun q7 => absurd q5 q7⟩⟩⟩⟩
      refine gX12_readPicture_14 ?_
      unfold fX12_readPicture_14
      have vk : vp_in (iI (k : Nat)) 1500 := vpk (by omega) (by omega)
      rw [f0, s0, iI_le (by omega) (by omega) (by omega) (by omega), iI_cl (a := (k : Nat)) (by omega) (by omega), Int.toNat_natCast, t0, show (59 : Int32) = iI 59 from rfl, iI_eq (a := b k) (by omega) (by omega) (by omega) (by omega)]
      have fB : Fr rpI [] [24] [] P (sI A 0 7 (iI (k : Nat))) := fA.sI (by simp)
      refine ⟨fun q => absurd q (by omega), fun _ => ⟨fun q => absurd rfl q, fun _ => ⟨vk, fun q => ?_, fun q => M_isDigit (by omega) (by omega) (fun g => ?_) (fun g => ?_)⟩⟩⟩
      · refine on67 _ _ fB rfl (fun _ => rfl) ⟨fun g => ?_, fun g => absurd (Or.inl q) g⟩
        rw [show (3 : Int32) = iI 3 from rfl, iI_eq (by omega) (by omega) (by omega) (by omega)] at g; omega
      · dsimp only [hx1, rI]
        refine ⟨fun q' => absurd q' (by decide), fun _ => on67 _ _ fB rfl (fun _ => rfl) ⟨fun g' => ?_, fun g' => absurd (Or.inr g) g'⟩⟩
        have := dig_bd g
        rw [show (3 : Int32) = iI 3 from rfl, iI_eq (by omega) (by omega) (by omega) (by omega)] at g'; omega
      · dsimp only [hx1, rI]
        refine ⟨fun _ => on67 _ _ fB rfl (fun _ => rfl) ⟨fun _ g' => ?_, fun _ => rfl⟩, fun q' => absurd rfl q'⟩
        rcases g' with g' | g'
        · exact q g'
        · rw [g] at g'; exact absurd g' (by decide)
  exact key n 0 0 0 (fun _ => 0) P (by omega) (by omega) (by omega) Fr.rf (fun r c h => by omega) (fun X hX => hX)
abbrev pcI : List Nat := [6, 7, 2, 3, 1, 5, 4, 28]
abbrev pcJ : List Nat := [6, 7, 2, 3, 1, 5, 4]
/-- a picture more, in the Model -/
theorem M_picture {d n w c : Nat} {t : Int} {b : Nat → Int} {P : PS} {R : List PS} {Q : Option AV → List PS → Prop} (hT : TpM b n P) (ht : gA P 0 12 0 = iI (w : Nat)) (hw : 4 ≤ w ∧ w ≤ 16) (hc : gI P 0 28 = iI (c : Nat)) (hc12 : c ≤ 12) (hti : gI P 0 29 = iI t)
    (hlong : ¬ n ≤ 400 → Q (some (vI (iI (-2)))) (P :: R))
    (hfull : n ≤ 400 → c = 12 → ∀ P', Fr [1] [] [] [] P P' → gI P' 0 1 = iI 0 → Q (some (vI (iI (-3)))) (P' :: R))
    (hy : ∀ L P', n ≤ 400 → c < 12 → picS b n w n 0 0 0 (fun _ => 0) = .ok L → Fr pcI [] [24, 23, 25, 26] [] P P' → gI P' 0 1 = iI 0 → gI P' 0 2 = iI 0 → gI P' 0 3 = iI (-1) → gI P' 0 28 = iI ((c + 1 : Nat)) → (∀ i, gA P' 0 25 i = if i = c then iI t else gA P 0 25 i) → (∀ i, gA P' 0 26 i = if i = c then iI (-1) else gA P 0 26 i) → (∀ i, i < 256 * c → gA P' 0 23 i = gA P 0 23 i) → (∀ r q, r < w → q < w → gA P' 0 23 (256 * c + (16 * r + q)) = iI (L (16 * r + q))) → Q (some (vI (iI (c : Nat)))) (P' :: R))
    (hn : ∀ e P', n ≤ 400 → c < 12 → picS b n w n 0 0 0 (fun _ => 0) = .error e → FaM e P' → Fr pcJ [] [24] [] P P' → gI P' 0 1 = iI 0 → Q (some (vI (iI (-1)))) (P' :: R)) : Tri 195 (d + 2) [vR 0 0 0] (P :: R) Q := by
  have hn15 := hT.2.1
  refine enX12_picture ?_
  unfold fX12_picture_0
  rw [hT.1, hc, show (400 : Int32) = iI 400 from rfl, iI_le (by omega) (by omega) (by omega) (by omega), show (12 : Int32) = iI 12 from rfl, iI_eq (by omega) (by omega) (by omega) (by omega)]
  refine ⟨fun q => ⟨fun q1 => ?_, fun q1 => hfull (by omega) (by omega) _ (Fr.rf.sI (by simp)) rfl⟩, fun q => hlong (by omega)⟩
  refine enX12_start ?_
  unfold fX12_start_0
  dsimp only [hx1, rV]
  rw [hT.1]
  have F0 : Fr pcJ [] [24] [] P (sI (sI (sI (sI (sI P 0 5 (iI (n : Nat))) 0 1 0) 0 4 0) 0 2 0) 0 3 (-1)) := ((((Fr.rf.sI (by simp)).sI (by simp)).sI (by simp)).sI (by simp)).sI (by simp)
  have a1 : gI (sI (sI (sI (sI (sI P 0 5 (iI (n : Nat))) 0 1 0) 0 4 0) 0 2 0) 0 3 (-1)) 0 5 = iI (n : Nat) := rfl
  have a2 : gI (sI (sI (sI (sI (sI P 0 5 (iI (n : Nat))) 0 1 0) 0 4 0) 0 2 0) 0 3 (-1)) 0 1 = iI 0 := rfl
  have a3 : gI (sI (sI (sI (sI (sI P 0 5 (iI (n : Nat))) 0 1 0) 0 4 0) 0 2 0) 0 3 (-1)) 0 2 = iI 0 := rfl
  have a4 : gI (sI (sI (sI (sI (sI P 0 5 (iI (n : Nat))) 0 1 0) 0 4 0) 0 2 0) 0 3 (-1)) 0 3 = iI (-1) := rfl
  generalize sI (sI (sI (sI (sI P 0 5 (iI (n : Nat))) 0 1 0) 0 4 0) 0 2 0) 0 3 (-1) = A at *
  refine M_readPicture hn15 a1 (fun i hi => by rw [F0.2.2.2.1 _ _ (by simp)]; exact hT.2.2 i hi) a3 (by rw [F0.2.2.2.1 _ _ (by simp)]; exact ht) hw (fun L B e hB fB => ?_) (fun e B e1 fB fa => ?_)
  · dsimp only [hx1, rV]
    have b2 : gI B 0 2 = iI 0 := by rw [fB.2.1 _ (by simp)]; exact a3
    have FB : Fr pcJ [] [24] [] P B := F0.trs (fB.mono (by simp) (by simp) (by simp) (by simp))
    rw [b2]
    refine ⟨fun _ => ?_, fun g => absurd (by decide) g⟩
    have bc : gI B 0 28 = iI (c : Nat) := by rw [FB.2.1 _ (by simp)]; exact hc
    have bt : gI B 0 29 = iI t := by rw [FB.2.1 _ (by simp)]; exact hti
    have key : ∀ (m k : Nat) (C : PS), k + m = 256 → Fr [] [] [23] [] B C → (∀ i, gA C 0 23 i = if 256 * c ≤ i ∧ i < 256 * c + k then gA B 0 24 (i - 256 * c) else gA B 0 23 i) → cX12_picture_49 (0, 0, 0, 0) (d + 1) (iI (k : Nat)) C R Q := by
      intro m
      induction m with
      | zero =>
        intro k C hk fC gC
        have cc : gI C 0 28 = iI (c : Nat) := by rw [fC.2.1 _ (by simp)]; exact bc
        have ct : gI C 0 29 = iI t := by rw [fC.2.1 _ (by simp)]; exact bt
        refine gX12_picture_49 ?_
        unfold fX12_picture_49
        have vc : vp_in (iI (c : Nat)) 12 := vpk (by omega) (by omega)
        rw [cc, ct, show (256 : Int32) = iI 256 from rfl, iI_le (by omega) (by omega) (by omega) (by omega), iI_cl (a := (c : Nat)) (by omega) (by omega), Int.toNat_natCast, show iI (c : Nat) + 1 = iI ((c + 1 : Nat)) from iI_add (c : Nat) 1, show iI ((c + 1 : Nat)) - 1 = iI (c : Nat) by rw [show (1 : Int32) = iI 1 from rfl, iI_sub]; refine congrArg iI ?_; omega]
        have FC : Fr pcI [] [24, 23, 25, 26] [] P C := (FB.mono (by simp) (by simp) (by simp) (by simp)).trs (fC.mono (by simp) (by simp) (by simp) (by simp))
        refine ⟨fun _ => ⟨vc, vc, hy L _ (by omega) (by omega) e (((FC.sA (by simp)).sA (by simp)).sI (by simp)) ?_ ?_ ?_ rfl (fun i => ?_) (fun i => ?_) (fun i hi => ?_) (fun r q' hr hq => ?_)⟩, fun g => absurd (by omega) g⟩
        · show gI C 0 1 = _
          rw [fC.2.1 _ (by simp), fB.2.1 _ (by simp)]; exact a2
        · show gI C 0 2 = _
          rw [fC.2.1 _ (by simp)]; exact b2
        · show gI C 0 3 = _
          rw [fC.2.1 _ (by simp), fB.2.1 _ (by simp)]; exact a4
        · simp only [gI_sI, gI_sL, gI_sA, gI_sB, gI_sO, gI_sR, gI_sW, gL_sI, gL_sL, gL_sA, gL_sB, gL_sO, gL_sR, gL_sW, gA_sI, gA_sL, gA_sA, gA_sB, gA_sO, gA_sR, gB_sI, gB_sL, gB_sA, gB_sB, gB_sO, gB_sR, gB_sW, gO_sI, gO_sL, gO_sA, gO_sB, gO_sO, gO_sR, gO_sW, gR_sI, gR_sL, gR_sA, gR_sB, gR_sO, gR_sR, gR_sW, gN_sI, gN_sL, gN_sA, gN_sB, gN_sO, gN_sR, gN_sW, if_true, if_false, Nat.reduceEqDiff, reduceIte]
          by_cases ci : i = c
          · rw [if_pos ci, if_pos ci]
          · rw [if_neg ci, if_neg ci, fC.2.2.2.1 _ _ (by simp), FB.2.2.2.1 _ _ (by simp)]
        · simp only [gI_sI, gI_sL, gI_sA, gI_sB, gI_sO, gI_sR, gI_sW, gL_sI, gL_sL, gL_sA, gL_sB, gL_sO, gL_sR, gL_sW, gA_sI, gA_sL, gA_sA, gA_sB, gA_sO, gA_sR, gB_sI, gB_sL, gB_sA, gB_sB, gB_sO, gB_sR, gB_sW, gO_sI, gO_sL, gO_sA, gO_sB, gO_sO, gO_sR, gO_sW, gR_sI, gR_sL, gR_sA, gR_sB, gR_sO, gR_sR, gR_sW, gN_sI, gN_sL, gN_sA, gN_sB, gN_sO, gN_sR, gN_sW, if_true, if_false, Nat.reduceEqDiff, reduceIte]
          by_cases ci : i = c
          · rw [if_pos ci, if_pos ci]; rfl
          · rw [if_neg ci, if_neg ci, fC.2.2.2.1 _ _ (by simp), FB.2.2.2.1 _ _ (by simp)]
        · show gA C 0 23 i = _
          rw [gC i, if_neg (by omega), FB.2.2.2.1 _ _ (by simp)]
        · show gA C 0 23 (256 * c + (16 * r + q')) = _
          rw [gC _, if_pos (by omega), show 256 * c + (16 * r + q') - 256 * c = 16 * r + q' by omega]
          exact hB r q' hr hq
      | succ m ih =>
        intro k C hk fC gC
        have cc : gI C 0 28 = iI (c : Nat) := by rw [fC.2.1 _ (by simp)]; exact bc
        refine gX12_picture_49 ?_
        unfold fX12_picture_49
        have eo : (256 : Int32) * iI (c : Nat) + iI (k : Nat) = iI ((256 * c + k : Nat)) := by rw [show (256 : Int32) = iI 256 from rfl, iI_mul, iI_add]; congr 1
        rw [cc, eo, show (256 : Int32) = iI 256 from rfl, iI_le (by omega) (by omega) (by omega) (by omega), iI_cl (a := (k : Nat)) (by omega) (by omega), iI_cl (a := ((256 * c + k : Nat) : Int)) (by omega) (by omega), Int.toNat_natCast, Int.toNat_natCast, show iI (k : Nat) + 1 = iI ((k + 1 : Nat)) from iI_add (k : Nat) 1]
        refine ⟨fun g => absurd g (by omega), fun _ => ⟨vpk (by omega) (by omega), vpk (by omega) (by omega), ih (k + 1) _ (by omega) (fC.sA (by simp)) (fun i => ?_)⟩⟩
        rw [gA_sA, if_pos rfl, if_pos rfl]
        by_cases ci : i = 256 * c + k
        · rw [if_pos ci, if_pos (by omega), fC.2.2.2.1 _ _ (by simp), ci, show 256 * c + k - 256 * c = k by omega]
        · rw [if_neg ci, gC i]
          by_cases cj : 256 * c ≤ i ∧ i < 256 * c + k
          · rw [if_pos cj, if_pos (by omega)]
          · rw [if_neg cj, if_neg (by omega)]
    exact key 256 0 B (by omega) Fr.rf (fun i => by rw [if_neg (by omega)])
  · dsimp only [hx1, rV]
    have b2 := fB
    have FB : Fr pcJ [] [24] [] P B := F0.trs (fa.mono (by simp) (by simp) (by simp) (by simp))
    refine ⟨fun g => ?_, fun _ => hn e B (by omega) (by omega) e1 b2 FB (by rw [fa.2.1 _ (by simp)]; exact a2)⟩
    rw [b2.1, show (0 : Int32) = iI 0 from rfl, iI_le (by have := b2.2.2; omega) (by have := b2.2.2; omega) (by omega) (by omega)] at g
    have := b2.2.2; omega
