/-! ===== the class: the stars of a BOOK ===== -/
theorem C_square {d : Nat} {x : Int32} {a : Int} {R : List PS} {Q : Option AV → List PS → Prop} (hx : x = iI a) (h : Q (some (vI (iI (a * a)))) R) : Tri 169 d [vI x] R Q := by
  subst hx
  refine enX11_square ?_
  unfold fX11_square_0
  rw [iI_mul]; exact h
theorem C_isNameTold {d j : Nat} {w : List Int} {l : List SR} {x : Int64} {P0 P1 P2 : PS} {R : List PS} {Q : Option AV → List PS → Prop} (hw : lets w) (h8 : w.length ≤ 8) (hx : x = iL (p32 w)) (hS : SsC j l P2) (hy : nameS l w = true → Q (some (vI (iI 1))) (P0 :: P1 :: P2 :: R)) (hn : nameS l w = false → Q (some (vI (iI 0))) (P0 :: P1 :: P2 :: R)) : Tri 7 d [vR 2 j 0, vL x] (P0 :: P1 :: P2 :: R) Q := by
  subst hx
  refine enX0_isNameTold ?_
  unfold fX0_isNameTold_0
  obtain ⟨s1, s2, s3, s4⟩ := hS
  have key : ∀ m i : Nat, i + m = l.length → (∀ k, k < i → (nthS l k).1 ≠ w) → cX0_isNameTold_2 (0, 0, 0, 0) d j (iL (p32 w)) (iI i) P0 P1 P2 R Q := by
    intro m
    induction m with
    | zero =>
      intro i hi hk
      refine gX0_isNameTold_2 ?_
      unfold fX0_isNameTold_2
      rw [s1, iI_le (by omega) (by omega) (by omega) (by omega)]
      refine ⟨fun _ => ⟨Or.inl rfl, hn ?_⟩, fun c => absurd (by omega) c⟩
      cases e : nameS l w with
      | false => rfl
      | true =>
        obtain ⟨k, hk1, hk2⟩ := any_nth.mp e
        exact absurd (by simpa using hk2) (hk k (by omega))
    | succ m ih =>
      intro i hi hk
      refine gX0_isNameTold_2 ?_
      unfold fX0_isNameTold_2
      have hs := s3 _ (nthS_mem (show i < l.length by omega))
      rw [s1, show (32 : Int32) = iI 32 from rfl, iI_le (by omega) (by omega) (by omega) (by omega), iI_le (by omega) (by omega) (by omega) (by omega), iI_in (by omega) (by omega), iI_cl (by omega) (by omega), lcmp_eq, show ((i : Nat) : Int).toNat = i by omega, (s4 i (by omega)).1, p32_eq hs.1.1 hs.1.2 hw h8]
      refine ⟨fun c => absurd c (by omega), fun _ => ⟨fun c => absurd c (by omega), fun _ => ⟨by omega, fun c => ?_, fun c => ⟨Or.inr rfl, hy ?_⟩⟩⟩⟩
      · rw [show (1 : Int32) = iI 1 from rfl, iI_add]
        refine ih (i + 1) (by omega) (fun k hk' => ?_)
        rcases Nat.lt_or_ge k i with g | g
        · exact hk k g
        · have : k = i := by omega
          subst this; exact c
      · exact any_nth.mpr ⟨i, by omega, by simpa using c⟩
  exact key l.length 0 (by omega) (fun k hk => absurd hk (Nat.not_lt_zero k))
theorem C_isNearStar {d j : Nat} {a b : Int} {l : List SR} {x y : Int32} {P0 P1 P2 : PS} {R : List PS} {Q : Option AV → List PS → Prop} (ha : 0 ≤ a ∧ a ≤ 999) (hb : 0 ≤ b ∧ b ≤ 999) (hx : x = iI a) (hy' : y = iI b) (hS : SsC j l P2) (hy : nearS l a b = true → Q (some (vI (iI 1))) (P0 :: P1 :: P2 :: R)) (hn : nearS l a b = false → Q (some (vI (iI 0))) (P0 :: P1 :: P2 :: R)) : Tri 8 (d + 1) [vR 2 j 0, vI x, vI y] (P0 :: P1 :: P2 :: R) Q := by
  subst hx hy'
  refine enX0_isNearStar ?_
  unfold fX0_isNearStar_0
  obtain ⟨s1, s2, s3, s4⟩ := hS
  have key : ∀ m i : Nat, i + m = l.length → (∀ k, k < i → ¬ (a - (nthS l k).2.1) * (a - (nthS l k).2.1) + (b - (nthS l k).2.2.1) * (b - (nthS l k).2.2.1) < 400) → cX0_isNearStar_2 (0, 0, 0, 0) d j (iI a) (iI b) (iI i) P0 P1 P2 R Q := by
    intro m
    induction m with
    | zero =>
      intro i hi hk
      refine gX0_isNearStar_2 ?_
      unfold fX0_isNearStar_2
      rw [s1, iI_le (by omega) (by omega) (by omega) (by omega)]
      refine ⟨fun _ => ⟨Or.inl rfl, hn ?_⟩, fun c => absurd (by omega) c⟩
      cases e : nearS l a b with
      | false => rfl
      | true =>
        obtain ⟨k, hk1, hk2⟩ := any_nth.mp e
        exact absurd (by simpa using hk2) (hk k (by omega))
    | succ m ih =>
      intro i hi hk
      refine gX0_isNearStar_2 ?_
      unfold fX0_isNearStar_2
      have hs := s3 _ (nthS_mem (show i < l.length by omega))
      have b1 := sq_bd (a := a - (nthS l i).2.1) (B := 999) (by have := hs.2.1; omega) (by have := hs.2.1; omega)
      have b2 := sq_bd (a := b - (nthS l i).2.2.1) (B := 999) (by have := hs.2.2.1; omega) (by have := hs.2.2.1; omega)
      rw [s1, show (32 : Int32) = iI 32 from rfl, iI_le (by omega) (by omega) (by omega) (by omega), iI_le (by omega) (by omega) (by omega) (by omega), iI_in (by omega) (by omega), iI_cl (by omega) (by omega), show ((i : Nat) : Int).toNat = i by omega, (s4 i (by omega)).2.1, iI_sub]
      refine ⟨fun c => absurd c (by omega), fun _ => ⟨fun c => absurd c (by omega), fun _ => ⟨by omega, ?_⟩⟩⟩
      refine C_square rfl ?_
      dsimp only [hx3, rI]
      refine ⟨by omega, ?_⟩
      rw [(s4 i (by omega)).2.2.1, iI_sub]
      refine C_square rfl ?_
      dsimp only [hx3, rI]
      rw [iI_add, show (400 : Int32) = iI 400 from rfl, iI_le (by omega) (by omega) (by omega) (by omega)]
      refine ⟨fun c => ?_, fun c => ⟨Or.inr rfl, hy ?_⟩⟩
      · rw [show (1 : Int32) = iI 1 from rfl, iI_add]
        refine ih (i + 1) (by omega) (fun k hk' => ?_)
        rcases Nat.lt_or_ge k i with g | g
        · exact hk k g
        · have : k = i := by omega
          subst this; omega
      · exact any_nth.mpr ⟨i, by omega, by simp only [decide_eq_true_eq]; omega⟩
  exact key l.length 0 (by omega) (fun k hk => absurd hk (Nat.not_lt_zero k))
theorem nthS_ap1 {l : List SR} {s : SR} {i : Nat} : nthS (l ++ [s]) i = if i < l.length then nthS l i else if i = l.length then s else ([], 0, 0, 0) := by
  unfold nthS
  simp only [List.getD_eq_getElem?_getD]
  split
  · rename_i h; rw [List.getElem?_append_left h]
  · rename_i h
    split
    · rename_i h2; subst h2; simp
    · rename_i h2; rw [List.getElem?_eq_none (by simp; omega)]; rfl
theorem C_add {d j : Nat} {s : SR} {l : List SR} {f : Nat → Int} {w : Int64} {x y z : Int32} {P0 P1 P2 : PS} {R : List PS} {Q : Option AV → List PS → Prop} (hs : StOK s) (hw : w = iL (p32 s.1)) (hx : x = iI s.2.1) (hy : y = iI s.2.2.1) (hz : z = iI s.2.2.2) (hl : l.length < 32) (hS : SsC j l P2) (hT : TdC j f P2) (h : ∀ P2', SsC j (l ++ [s]) P2' → TdC j f P2' → FrB j P2 P2' → Q none (P0 :: P1 :: P2' :: R)) : Tri 11 d [vR 2 j 0, vL w, vI x, vI y, vI z] (P0 :: P1 :: P2 :: R) Q := by
  subst hw hx hy hz
  refine enX0_add ?_
  unfold fX0_add_0
  obtain ⟨s1, s2, s3, s4⟩ := hS
  rw [s1, show (32 : Int32) = iI 32 from rfl, iI_le (by omega) (by omega) (by omega) (by omega), iI_in (by omega) (by omega), iI_cl (by omega) (by omega), show ((l.length : Nat) : Int).toNat = l.length by omega]
  have hr : (0 : Int) ≤ l.length ∧ (l.length : Int) < (32 : Nat) := by omega
  refine ⟨fun c => absurd c (by omega), fun _ => ⟨hr, hr, hr, hr, h _ ⟨?_, ?_, ?_, ?_⟩ ?_ ?_⟩⟩
  · rw [gI_sI, if_pos rfl, if_pos rfl, show (1 : Int32) = iI 1 from rfl, iI_add]; simp
  · simp; omega
  · intro t ht
    rcases List.mem_append.mp ht with g | g
    · exact s3 t g
    · rw [List.mem_singleton.mp g]; exact hs
  · intro i hi
    rw [nthS_ap1]
    simp only [List.length_append, List.length_singleton] at hi
    simp only [gI_sI, gI_sL, gI_sA, gI_sB, gI_sO, gI_sR, gI_sW, gL_sI, gL_sL, gL_sA, gL_sB, gL_sO, gL_sR, gL_sW, gA_sI, gA_sL, gA_sA, gA_sB, gA_sO, gA_sR, gB_sI, gB_sL, gB_sA, gB_sB, gB_sO, gB_sR, gB_sW, gO_sI, gO_sL, gO_sA, gO_sB, gO_sO, gO_sR, gO_sW, gR_sI, gR_sL, gR_sA, gR_sB, gR_sO, gR_sR, gR_sW, gN_sI, gN_sL, gN_sA, gN_sB, gN_sO, gN_sR, gN_sW, if_true, if_false, Nat.reduceEqDiff, reduceIte]
    by_cases c : i < l.length
    · have : ¬ i = l.length := by omega
      simp only [if_pos c, if_neg this]
      exact s4 i c
    · have : i = l.length := by omega
      simp only [if_neg c, if_pos this]
      simp
  · intro k hk
    rw [gI_sI, if_neg (show ¬ 6 + k = 5 by omega)]
    exact hT k hk
  · exact FrB.rf.sB.sA.sA.sA.sI
theorem C_clear {d j : Nat} {P0 P1 P2 : PS} {R : List PS} {Q : Option AV → List PS → Prop} (h : ∀ P2', SsC j [] P2' → TdC j plain P2' → FrB j P2 P2' → Q none (P0 :: P1 :: P2' :: R)) : Tri 1 d [vR 2 j 0] (P0 :: P1 :: P2 :: R) Q := by
  refine enX0_clear ?_
  unfold fX0_clear_0
  refine h _ ⟨?_, by simp, by simp, fun i hi => absurd hi (by simp)⟩ ?_ FrB.rf.sI.sI.sI.sI.sI.sI.sI.sI.sI.sI.sI.sI.sI
  · simp only [gI_sI, gI_sL, gI_sA, gI_sB, gI_sO, gI_sR, gI_sW, gL_sI, gL_sL, gL_sA, gL_sB, gL_sO, gL_sR, gL_sW, gA_sI, gA_sL, gA_sA, gA_sB, gA_sO, gA_sR, gB_sI, gB_sL, gB_sA, gB_sB, gB_sO, gB_sR, gB_sW, gO_sI, gO_sL, gO_sA, gO_sB, gO_sO, gO_sR, gO_sW, gR_sI, gR_sL, gR_sA, gR_sB, gR_sO, gR_sR, gR_sW, gN_sI, gN_sL, gN_sA, gN_sB, gN_sO, gN_sR, gN_sW, if_true, if_false, Nat.reduceEqDiff, reduceIte]; rfl
  · intro k hk
    have : k = 0 ∨ k = 1 ∨ k = 2 ∨ k = 3 ∨ k = 4 ∨ k = 5 ∨ k = 6 ∨ k = 7 ∨ k = 8 ∨ k = 9 ∨ k = 10 ∨ k = 11 := by omega
    rcases this with e | e | e | e | e | e | e | e | e | e | e | e <;> subst e <;> simp only [gI_sI, gI_sL, gI_sA, gI_sB, gI_sO, gI_sR, gI_sW, gL_sI, gL_sL, gL_sA, gL_sB, gL_sO, gL_sR, gL_sW, gA_sI, gA_sL, gA_sA, gA_sB, gA_sO, gA_sR, gB_sI, gB_sL, gB_sA, gB_sB, gB_sO, gB_sR, gB_sW, gO_sI, gO_sL, gO_sA, gO_sB, gO_sO, gO_sR, gO_sW, gR_sI, gR_sL, gR_sA, gR_sB, gR_sO, gR_sR, gR_sW, gN_sI, gN_sL, gN_sA, gN_sB, gN_sO, gN_sR, gN_sW, if_true, if_false, Nat.reduceEqDiff, reduceIte, Nat.reduceAdd] <;> rfl
theorem C_readStar {d j : Nat} {b : Nat → Int} {n q : Nat} {f : Nat → Int} {l : List SR} {P0 P1 P2 : PS} {R : List PS} {Q : Option AV → List PS → Prop} (hq : q ≤ n) (ht : TxC false b n P1) (hk : TkC (tok false b n q) P1) (h1 : (tok false b n q).1 = 1) (hT : TdC j f P2) (hS : SsC j l P2)
    (hb : 32 ≤ l.length → ∀ P1', FaC (badF (tok false b n q), ((tok false b n q).2.1 : Nat)) P1' → Fr tcI [7] [] [] P1 P1' → Q (some (vI (iI 0))) (P0 :: P1' :: P2 :: R))
    (hy : ∀ l' q' P1' P2', l.length < 32 → starS b n l (tok false b n q).2.2.1 = .ok (l', q') → q < q' → q' ≤ n → TxC false b n P1' → TkC (tok false b n q') P1' → Fr tsI [7] [] [] P1 P1' → TdC j f P2' → SsC j l' P2' → FrB j P2 P2' → Q (some (vI (iI 1))) (P0 :: P1' :: P2' :: R))
    (hn : ∀ e P1', l.length < 32 → starS b n l (tok false b n q).2.2.1 = .error e → FaC e P1' → Fr tcI [7] [] [] P1 P1' → Q (some (vI (iI 0))) (P0 :: P1' :: P2 :: R)) : Tri 17 (d + 4) [vR 10 0 0, vR 1 0 0, vR 2 j 0] (P0 :: P1 :: P2 :: R) Q := by
  refine enX1_readStar ?_
  unfold fX1_readStar_0
  have s2 := hS.2.1
  rw [hS.1, show (32 : Int32) = iI 32 from rfl, iI_lt (by omega) (by omega) (by omega) (by omega)]
  refine ⟨fun c32 => ?_, fun c32 => C_refuseHere hq hk (fun P' fa f1 => ⟨Or.inl rfl, hb (by omega) P' fa (f1.mono (by simp [tcI, tsI]) (by simp) (by simp) (by simp))⟩)⟩
  have c32' : l.length < 32 := by omega
  refine C_nxt hq ht hk h1 (fun A g1 g2 t1 k1 f1 => ?_)
  replace hy := fun l' q' P1' P2' => hy l' q' P1' P2' c32'
  replace hn := fun e P1' => hn e P1' c32'
  generalize (tok false b n q).2.2.1 = q1 at *
  have ho := tok_ok false b g2
  have mo : ∀ {B C : PS}, Fr [2, 3] [] [] [] B C → Fr tcI [7] [] [] B C := fun f => f.mono (by simp [tcI, tsI]) (by simp) (by simp) (by simp)
  rw [(k1.k g2).1]
  refine ⟨fun c => C_refuseHere g2 k1 (fun P' fa f2 => ⟨Or.inl rfl, hn _ P' ?_ fa (f1.te (mo f2))⟩), fun c => ?_⟩
  · unfold starS; dsimp only; rw [if_pos (fun g => c g.1)]
  have hw := wid_bd (tok false b n q1).2.2.2.2
  rw [(k1.2.2.2.1 c).1, show (-1 : Int32) = iI (-1) from rfl, iI_eq (by omega) (by omega) (by omega) (by omega)]
  refine ⟨fun cw => ?_, fun cw => C_refuseHere g2 k1 (fun P' fa f2 => ⟨Or.inl rfl, hn _ P' ?_ fa (f1.te (mo f2))⟩)⟩
  case refine_2 => unfold starS; dsimp only; rw [if_pos (fun g => cw g.2)]
  have hlt := ho.2.2.2.2.1 c
  refine C_isNameTold hlt.1 hlt.2 (k1.2.2.2.1 c).2 hS (fun cn => ?_) (fun cn => ?_)
  · dsimp only [hx3, rI]
    refine ⟨fun c => absurd c (by decide), fun _ => C_refuse (e := (3, ((tok false b n q1).2.1 : Nat))) rfl k1.2.1 (fun P' fa f2 => ⟨Or.inl rfl, hn _ P' ?_ fa (f1.te (mo f2))⟩)⟩
    unfold starS; dsimp only; rw [if_neg (fun g => g ⟨c, cw⟩), if_pos cn]
  dsimp only [hx3, rI]
  refine ⟨fun _ => ?_, fun c => absurd rfl c⟩
  have hst : starS b n l q1 = (wantS false b n w_at (tok false b n q1).2.2.1 >>= fun q3 => numS false b n 0 999 q3 >>= fun xq => numS false b n 0 999 xq.2 >>= fun yq => if nearS l xq.1 yq.1 = true then .error (6, ((tok false b n q3).2.1 : Nat)) else wantS false b n w_light yq.2 >>= fun q6 => numS false b n 1 99 q6 >>= fun lq => .ok (l ++ [((tok false b n q1).2.2.2.2, xq.1, yq.1, lq.1)], lq.2)) := by
    unfold starS; dsimp only; rw [if_neg (fun g => g ⟨c, cw⟩), if_neg (by rw [cn]; decide)]
  rw [hst] at hy hn
  refine C_nxt g2 t1 k1 c (fun B g3 g4 t2 k2 f2 => ?_)
  generalize (tok false b n q1).2.2.1 = q2 at *
  have F2 := f1.trs f2
  refine C_takeWord (i := 1) w_at (by omega) rfl rfl g4 t2 k2 (fun C q3 e3 l3 l3' k3 f3 => ?_) (fun C e e3 fa f3 => ?_)
  case refine_2 =>
    dsimp only [hx3, rI]
    exact ⟨fun _ => ⟨Or.inl rfl, hn e C (by rw [e3]; rfl) fa (F2.te f3)⟩, fun c => absurd rfl c⟩
  dsimp only [hx3, rI]
  refine ⟨fun c => absurd c (by decide), fun _ => ?_⟩
  have F3 := F2.trs f3
  have t3 := ht.fr F3 (by simp [tcI, tsI]) (by simp [tcI, tsI]) (by simp) (by simp)
  rw [e3] at hy hn
  refine C_takeNumber (lo := 0) (hi := 999) rfl rfl (by omega) (by omega) l3' t3 k3 (fun D x q4 e4 x0 x1 l4 l4' tk4 tp4 k4 f4 => ?_) (fun D e e4 fa f4 => ?_)
  case refine_2 =>
    dsimp only [hx3, rI]
    exact ⟨fun c => absurd rfl c, fun _ => ⟨Or.inl rfl, hn e D (by show (numS false b n 0 999 q3 >>= _) = _; rw [e4]; rfl) fa (F3.te f4)⟩⟩
  dsimp only [hx3, rI]
  refine ⟨fun _ => ?_, fun c => absurd c (by decide)⟩
  have F4 := F3.trs f4
  have t4 := ht.fr F4 (by simp [tcI, tsI]) (by simp [tcI, tsI]) (by simp) (by simp)
  replace hy := fun l' q' P1' P2' (g : (numS false b n 0 999 q4 >>= fun yq => if nearS l x yq.1 = true then .error (6, ((tok false b n q3).2.1 : Nat)) else wantS false b n w_light yq.2 >>= fun q6 => numS false b n 1 99 q6 >>= fun lq => .ok (l ++ [((tok false b n q1).2.2.2.2, x, yq.1, lq.1)], lq.2)) = Except.ok (l', q')) => hy l' q' P1' P2' (by show (numS false b n 0 999 q3 >>= _) = _; rw [e4]; exact g)
  replace hn := fun e P1' (g : (numS false b n 0 999 q4 >>= fun yq => if nearS l x yq.1 = true then .error (6, ((tok false b n q3).2.1 : Nat)) else wantS false b n w_light yq.2 >>= fun q6 => numS false b n 1 99 q6 >>= fun lq => .ok (l ++ [((tok false b n q1).2.2.2.2, x, yq.1, lq.1)], lq.2)) = Except.error e) => hn e P1' (by show (numS false b n 0 999 q3 >>= _) = _; rw [e4]; exact g)
  refine C_takeNumber (lo := 0) (hi := 999) rfl rfl (by omega) (by omega) l4' t4 k4 (fun E y q5 e5 y0 y1 l5 l5' tk5 tp5 k5 f5 => ?_) (fun E e e5 fa f5 => ?_)
  case refine_2 =>
    dsimp only [hx3, rI]
    exact ⟨fun c => absurd rfl c, fun _ => ⟨Or.inl rfl, hn e E (by rw [e5]; rfl) fa (F4.te f5)⟩⟩
  dsimp only [hx3, rI]
  refine ⟨fun _ => ?_, fun c => absurd c (by decide)⟩
  have F5 := F4.trs f5
  have t5 := ht.fr F5 (by simp [tcI, tsI]) (by simp [tcI, tsI]) (by simp) (by simp)
  rw [e5] at hy hn
  refine C_isNearStar ⟨x0, x1⟩ ⟨y0, y1⟩ tk4 tk5 hS (fun cn2 => ?_) (fun cn2 => ?_)
  · dsimp only [hx3, rI]
    refine ⟨fun c => absurd c (by decide), fun _ => C_refuse (e := (6, ((tok false b n q3).2.1 : Nat))) rfl tp4 (fun P' fa f6 => ⟨Or.inl rfl, hn _ P' ?_ fa (F5.te (mo f6))⟩)⟩
    show (if nearS l x y = true then _ else _) = _
    rw [if_pos cn2]
  dsimp only [hx3, rI]
  refine ⟨fun _ => ?_, fun c => absurd rfl c⟩
  have hnn : ¬ nearS l x y = true := by rw [cn2]; decide
  refine C_takeWord (i := 2) w_light (by omega) rfl rfl l5' t5 k5 (fun G q6 e6 l6 l6' k6 f6 => ?_) (fun G e e6 fa f6 => ?_)
  case refine_2 =>
    dsimp only [hx3, rI]
    exact ⟨fun _ => ⟨Or.inl rfl, hn e G (by show (if nearS l x y = true then _ else _) = _; rw [if_neg hnn, e6]; rfl) fa (F5.te f6)⟩, fun c => absurd rfl c⟩
  dsimp only [hx3, rI]
  refine ⟨fun c => absurd c (by decide), fun _ => ?_⟩
  have F6 := F5.trs f6
  have t6 := ht.fr F6 (by simp [tcI, tsI]) (by simp [tcI, tsI]) (by simp) (by simp)
  refine C_takeNumber (lo := 1) (hi := 99) rfl rfl (by omega) (by omega) l6' t6 k6 (fun H u q7 e7 u0 u1 l7 l7' tk7 tp7 k7 f7 => ?_) (fun H e e7 fa f7 => ?_)
  case refine_2 =>
    dsimp only [hx3, rI]
    exact ⟨fun c => absurd rfl c, fun _ => ⟨Or.inl rfl, hn e H (by show (if nearS l x y = true then _ else _) = _; rw [if_neg hnn, e6]; show (numS false b n 1 99 q6 >>= _) = _; rw [e7]; rfl) fa (F6.te f7)⟩⟩
  dsimp only [hx3, rI]
  refine ⟨fun _ => ?_, fun c => absurd c (by decide)⟩
  have F7 := F6.trs f7
  have t7 := ht.fr F7 (by simp [tcI, tsI]) (by simp [tcI, tsI]) (by simp) (by simp)
  refine C_add (s := ((tok false b n q1).2.2.2.2, x, y, u)) ⟨hlt, ⟨x0, x1⟩, ⟨y0, y1⟩, u0, u1⟩ (k1.2.2.2.1 c).2 tk4 tk5 tk7 c32' hS hT (fun P2' S' T' J' => ?_)
  exact ⟨Or.inr rfl, hy _ q7 H P2' (by show (if nearS l x y = true then _ else _) = _; rw [if_neg hnn, e6]; show (numS false b n 1 99 q6 >>= _) = _; rw [e7]; rfl) (by omega) l7' t7 k7 F7 T' S' J'⟩
