theorem sq_bd {a B : Int} (h1 : -B ≤ a) (h2 : a ≤ B) : 0 ≤ a * a ∧ a * a ≤ B * B := by
  rcases Int.le_total 0 a with h | h
  · exact ⟨Int.mul_nonneg h h, Int.mul_le_mul h2 h2 h (by omega)⟩
  · have e : a * a = (-a) * (-a) := by rw [Int.neg_mul_neg]
    rw [e]
    exact ⟨Int.mul_nonneg (by omega) (by omega), Int.mul_le_mul (by omega) (by omega) (by omega) (by omega)⟩
abbrev stI : List Nat := [4, 6, 7, 8, 2, 3, 21]
abbrev stA : List Nat := [13, 14, 15]
theorem FaM.nle {e : PE} {P : PS} (h : FaM e P) : ¬ gI P 0 2 ≤ 0 := by
  rw [h.1, show (0 : Int32) = iI 0 from rfl, iI_le (by have := h.2.2; omega) (by have := h.2.2; omega) (by omega) (by omega)]
  have := h.2.2; omega
theorem FaM.ne {e : PE} {P : PS} (h : FaM e P) : ¬ gI P 0 2 = 0 := by
  rw [h.1, show (0 : Int32) = iI 0 from rfl, iI_eq (by have := h.2.2; omega) (by have := h.2.2; omega) (by omega) (by omega)]
  have := h.2.2; omega
theorem M_st8 {d : Nat} {L : Nat} {P : PS} {R : List PS} {Q : Option AV → List PS → Prop} (hs : gI P 0 21 = iI L) (hL : L ≤ 32)
    (h : ∀ x1 : Int32, ((x1 = 1 ∧ ∃ i, i < L ∧ gB P 0 20 i = gL P 0 9) ∨ (x1 = 0 ∧ ∀ i, i < L → gB P 0 20 i ≠ gL P 0 9)) → cX12_readStar_8 (0, 0, 0, 0) d x1 (iI L) P R Q) :
    ∀ (m k : Nat) (x1 : Int32), k + m = L → ((x1 = 1 ∧ ∃ i, i < k ∧ gB P 0 20 i = gL P 0 9) ∨ (x1 = 0 ∧ ∀ i, i < k → gB P 0 20 i ≠ gL P 0 9)) → cX12_readStar_8 (0, 0, 0, 0) d x1 (iI k) P R Q := by
  intro m
  induction m with
  | zero => intro k x1 hk hx; rw [show k = L by omega] at hx ⊢; exact h x1 hx
  | succ m ih =>
    intro k x1 hk hx
    refine gX12_readStar_8 ?_
    unfold fX12_readStar_8
    rw [hs, iI_le (by omega) (by omega) (by omega) (by omega)]
    refine ⟨fun c => absurd c (by omega), fun _ => ⟨fun c => ?_, fun c => ?_⟩⟩
    · rw [iI_lit 1, iI_add]
      rcases hx with ⟨rfl, i, hi, he⟩ | ⟨rfl, _⟩
      · exact ih (k + 1) _ (by omega) (Or.inl ⟨rfl, i, by omega, he⟩)
      · exact absurd rfl c
    · rcases hx with ⟨rfl, _⟩ | ⟨rfl, hx⟩
      · exact absurd c (by decide)
      refine ⟨by rw [iI_in (by omega) (by omega)]; omega, ?_⟩
      rw [iI_cl (by omega) (by omega), show ((k : Int)).toNat = k by omega, lcmp_eq]
      have e1 : iI (k : Int) + (1 : Int32) = iI ((k + 1 : Nat) : Int) := by rw [iI_lit, iI_add]; rfl
      rw [e1]
      refine ⟨fun c2 => ih (k + 1) _ (by omega) (Or.inr ⟨rfl, fun i hi => ?_⟩), fun c2 => ih (k + 1) _ (by omega) (Or.inl ⟨rfl, k, by omega, c2⟩)⟩
      rcases Nat.lt_succ_iff_lt_or_eq.mp hi with q | q
      · exact hx i q
      · rw [q]; exact c2
theorem M_st209f {d : Nat} {e : PE} {x2 : Int64} {x5 x6 : Int32} {P : PS} {R : List PS} {Q : Option AV → List PS → Prop} (hf : FaM e P) (h : Q none (P :: R)) : cX12_readStar_209 (0, 0, 0, 0) (d + 1) x2 x5 x6 P R Q := by
  refine gX12_readStar_209 ?_
  unfold fX12_readStar_209
  refine M_want_f hf ?_
  dsimp only [hx1, rV]
  refine M_num_f hf ?_
  dsimp only [hx1, rI]
  exact ⟨fun c => absurd c hf.nle, fun _ => h⟩
theorem M_st123f {d : Nat} {e : PE} {x2 : Int64} {x4 x5 x6 x7 : Int32} {P : PS} {R : List PS} {Q : Option AV → List PS → Prop} (hf : FaM e P) (h : Q none (P :: R)) : cX12_readStar_123 (0, 0, 0, 0) (d + 1) x2 x4 x5 x6 x7 P R Q := by
  refine gX12_readStar_123 ?_
  unfold fX12_readStar_123
  exact ⟨fun _ => M_st209f hf h, fun _ => ⟨fun _ => M_st209f hf h, fun c => absurd c hf.ne⟩⟩
theorem M_st123 {d : Nat} {b : Nat → Int} {n q : Nat} {l : List SR} {pl x y : Int} {x2 : Int64} {P : PS} {R : List PS} {Q : Option AV → List PS → Prop} (hp : PrM false b n q P) (hs : SsM l P) (hx : 0 ≤ x ∧ x ≤ 999) (hy : 0 ≤ y ∧ y ≤ 999)
    (hno : nearS l x y = false → cX12_readStar_209 (0, 0, 0, 0) (d + 1) x2 (iI x) (iI y) P R Q) (hye : ∀ P', nearS l x y = true → Fr [2, 3] [] [] [] P P' → FaM (6, pl) P' → Q none (P' :: R)) :
    ∀ (m k : Nat), k + m = l.length → (∀ i, i < k → ¬ ((x - (nthS l i).2.1) * (x - (nthS l i).2.1) + (y - (nthS l i).2.2.1) * (y - (nthS l i).2.2.1) < 400)) → cX12_readStar_123 (0, 0, 0, 0) (d + 1) x2 (iI pl) (iI x) (iI y) (iI k) P R Q := by
  intro m
  have hL := hs.2.1
  induction m with
  | zero =>
    intro k hk hj
    refine gX12_readStar_123 ?_
    unfold fX12_readStar_123
    rw [hs.1, iI_le (by omega) (by omega) (by omega) (by omega)]
    refine ⟨fun _ => hno ?_, fun c => absurd (show (l.length : Int) ≤ k by omega) c⟩
    unfold nearS
    cases hb : l.any _ with
    | false => rfl
    | true =>
      obtain ⟨i, hi, hq⟩ := any_nth.mp hb
      exact absurd (of_decide_eq_true hq) (hj i (by omega))
  | succ m ih =>
    intro k hk hj
    refine gX12_readStar_123 ?_
    unfold fX12_readStar_123
    have hkl : k < l.length := by omega
    have hin : vp_in (iI (k : Int)) 32 := by rw [iI_in (by omega) (by omega)]; omega
    obtain ⟨-, e2, e3, -⟩ := hs.2.2.2 k hkl
    have hst := hs.2.2.1 _ (nthS_mem hkl)
    rw [hs.1, iI_le (by omega) (by omega) (by omega) (by omega), hp.2.2.1]
    refine ⟨fun c => absurd c (by omega), fun _ => ⟨fun c => absurd rfl c, fun _ => ⟨hin, hin, hin, hin, ?_⟩⟩⟩
    rw [iI_cl (by omega) (by omega), show ((k : Int)).toNat = k by omega, e2, e3]
    simp only [iI_sub, iI_mul, iI_add, iI_lit]
    obtain ⟨-, hsx, hsy, -⟩ := hst
    have b1 := sq_bd (a := x - (nthS l k).2.1) (B := 999) (by omega) (by omega)
    have b2 := sq_bd (a := y - (nthS l k).2.2.1) (B := 999) (by omega) (by omega)
    rw [iI_lt (by omega) (by omega) (by omega) (by omega)]
    refine ⟨fun c => ?_, fun c => ?_⟩
    · refine M_st123f (e := (6, pl)) ⟨rfl, rfl, (by decide : (1 : Int) ≤ 6), (by decide : (6 : Int) ≤ 6)⟩ (hye _ ?_ ((Fr.rf.sI (by simp)).sI (by simp)) ⟨rfl, rfl, (by decide : (1 : Int) ≤ 6), (by decide : (6 : Int) ≤ 6)⟩)
      exact any_nth.mpr ⟨k, hkl, decide_eq_true c⟩
    · refine ih (k + 1) (by omega) (fun i hi => ?_)
      rcases Nat.lt_succ_iff_lt_or_eq.mp hi with q | q
      · exact hj i q
      · rw [q]; exact c
theorem M_st209 {d : Nat} {b : Nat → Int} {n q : Nat} {l : List SR} {w : List Int} {x y : Int} {P : PS} {R : List PS} {Q : Option AV → List PS → Prop} (hp : PrM false b n q P) (hs : SsM l P) (h32 : l.length < 32) (hw : lets w ∧ w.length ≤ 8) (hx : 0 ≤ x ∧ x ≤ 999) (hy : 0 ≤ y ∧ y ≤ 999)
    (hok : ∀ q6 li q7 P', wantS false b n w_light q = .ok q6 → numS false b n 1 99 q6 = .ok (li, q7) → Fr stI [9] stA [20] P P' → PrM false b n q7 P' → SsM (l ++ [(w, x, y, li)]) P' → Q none (P' :: R))
    (he1 : ∀ e P', wantS false b n w_light q = .error e → Fr stI [9] stA [20] P P' → FaM e P' → Q none (P' :: R)) (he2 : ∀ q6 e P', wantS false b n w_light q = .ok q6 → numS false b n 1 99 q6 = .error e → Fr stI [9] stA [20] P P' → FaM e P' → Q none (P' :: R)) :
    cX12_readStar_209 (0, 0, 0, 0) (d + 2) (iL (p256 w)) (iI x) (iI y) P R Q := by
  refine gX12_readStar_209 ?_
  unfold fX12_readStar_209
  refine M_want (w := w_light) hp (by decide) lw_light.1 lw_light.2 (fun q6 P1 e1 f1 p1 => ?_) (fun e P1 e1 f1 fa1 => ?_)
  · dsimp only [hx1, rV]
    refine M_num (lo := 1) (hi := 99) p1 (by omega) (by omega) (fun li q7 P2 e2 f2 p2 => ?_) (fun xx e P2 e2 f2 fa2 => ?_)
    · dsimp only [hx1, rI]
      have hli := numS_ok p1.2.2.2.1 e2
      have hs2 : SsM l P2 := (hs.fr f1 (by simp [prI]) (by simp) (by simp) (by simp) (by simp)).fr f2 (by simp [prI]) (by simp) (by simp) (by simp) (by simp)
      rw [hs2.1, p2.2.2.1]
      have hin : vp_in (iI (l.length : Int)) 32 := by rw [iI_in (by omega) (by omega)]; omega
      refine ⟨fun _ => ⟨hin, hin, hin, hin, ?_⟩, fun c => absurd (by decide) c⟩
      rw [iI_cl (by omega) (by omega), show ((l.length : Int)).toNat = l.length by omega]
      refine hok q6 li q7 _ e1 e2 ?_ ?_ ?_
      · have f12 : Fr stI [9] stA [20] P P2 := (f1.trs f2).mono (by simp [prI, stI]) (by simp) (by simp) (by simp)
        exact ((((f12.sB (by simp)).sA (by simp [stA])).sA (by simp [stA])).sA (by simp [stA])).sI (by simp [stI])
      · exact p2
      · refine ⟨?_, by simp; omega, fun s hs' => ?_, fun i hi => ?_⟩
        · show iI (l.length : Int) + 1 = _
          rw [iI_lit, iI_add, List.length_append]; rfl
        · rcases List.mem_append.mp hs' with h | h
          · exact hs.2.2.1 s h
          · rw [List.mem_singleton.mp h]; exact ⟨hw, hx, hy, hli.2.2.1, hli.2.2.2⟩
        · rw [nthS_app]
          have hi' : i < l.length + 1 := by simpa using hi
          simp only [gI_sI, gI_sL, gI_sA, gI_sB, gI_sO, gI_sR, gI_sW, gL_sI, gL_sL, gL_sA, gL_sB, gL_sO, gL_sR, gL_sW, gA_sI, gA_sL, gA_sA, gA_sB, gA_sO, gA_sR, gB_sI, gB_sL, gB_sA, gB_sB, gB_sO, gB_sR, gB_sW, gO_sI, gO_sL, gO_sA, gO_sB, gO_sO, gO_sR, gO_sW, gR_sI, gR_sL, gR_sA, gR_sB, gR_sO, gR_sR, gR_sW, gN_sI, gN_sL, gN_sA, gN_sB, gN_sO, gN_sR, gN_sW, if_true, if_false, Nat.reduceEqDiff, reduceIte]
          by_cases c : i = l.length
          · subst c
            simp only [if_true, Nat.lt_irrefl, if_false, and_self]
          · simp only [if_neg c, if_pos (show i < l.length by omega)]
            exact hs2.2.2.2 i (by omega)
    · dsimp only [hx1, rI]
      exact ⟨fun c => absurd c fa2.nle, fun _ => he2 q6 e P2 e1 e2 ((f1.trs f2).mono (by simp [prI, stI]) (by simp) (by simp) (by simp)) fa2⟩
  · dsimp only [hx1, rV]
    refine M_num_f fa1 ?_
    dsimp only [hx1, rI]
    exact ⟨fun c => absurd c fa1.nle, fun _ => he1 e P1 e1 (f1.mono (by simp [prI, stI]) (by simp) (by simp) (by simp)) fa1⟩
