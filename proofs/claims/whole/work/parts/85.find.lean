/-! ===== the Model: all DOTS of a picture ===== -/
theorem fst_ex {L : Nat → Int} {z : Int} : ∀ (n j : Nat), j < n → brt L z j → ∃ i, i ≤ j ∧ fst1 L z i ∧ rch L z i j
  | 0, j, h, _ => absurd h (Nat.not_lt_zero j)
  | n + 1, j, h, hb => by
    by_cases c : fst1 L z j
    · exact ⟨j, Nat.le_refl j, c, rch_rf j⟩
    · have : ∃ i, i < j ∧ brt L z i ∧ rch L z i j := by
        refine Classical.byContradiction (fun q => c ⟨hb, fun i hi hbi hr => q ⟨i, hi, hbi, hr⟩⟩)
      obtain ⟨i, h1, h2, h3⟩ := this
      obtain ⟨i0, g1, g2, g3⟩ := fst_ex n i (by omega) h2
      exact ⟨i0, by omega, g2, rch_tr g3 h3⟩
/-- the marks, when all first pixels below k are done -/
def MkK (L : Nat → Int) (z : Int) (k : Nat) (mk : Nat → Int) : Prop := (∀ i, i < 256 → mk i ≠ 0 → ∃ j, j < k ∧ fst1 L z j ∧ rch L z j i) ∧ ∀ j, j < k → fst1 L z j → ∀ i, i < 256 → rch L z j i → mk i = (cnt (fstB L z) j : Nat) + 1
theorem cnt_f0 {L : Nat → Int} {z : Int} {k : Nat} (h : ¬ fst1 L z k) : cnt (fstB L z) (k + 1) = cnt (fstB L z) k := by
  show cnt (fstB L z) k + (if fstB L z k = true then 1 else 0) = _
  rw [show fstB L z k = false from dcd_f.mpr h]; simp
theorem cnt_f1 {L : Nat → Int} {z : Int} {k : Nat} (h : fst1 L z k) : cnt (fstB L z) (k + 1) = cnt (fstB L z) k + 1 := by
  show cnt (fstB L z) k + (if fstB L z k = true then 1 else 0) = _
  rw [show fstB L z k = true from dcd_t.mpr h]; simp
theorem MkK.no {L : Nat → Int} {z : Int} {k : Nat} {mk : Nat → Int} (h : MkK L z k mk) (hn : ¬ fst1 L z k) : MkK L z (k + 1) mk := by
  refine ⟨fun i hi hne => ?_, fun j hj hf i hi hr => ?_⟩
  · obtain ⟨j, h1, h2⟩ := h.1 i hi hne
    exact ⟨j, by omega, h2⟩
  · by_cases c : j = k
    · rw [c] at hf; exact absurd hf hn
    · exact h.2 j (by omega) hf i hi hr
theorem MkK.f {L : Nat → Int} {z : Int} {k : Nat} {mk : Nat → Int} (h : MkK L z k mk) (hk : k < 256) (hb : brt L z k) : fst1 L z k ↔ mk k = 0 := by
  constructor
  · intro hf
    by_cases c : mk k = 0
    · exact c
    · obtain ⟨j, h1, h2, h3⟩ := h.1 k hk c
      exact absurd h3 (hf.2 j h1 h2.1)
  · intro h0
    refine ⟨hb, fun j hj hbj hr => ?_⟩
    obtain ⟨i, h1, h2, h3⟩ := fst_ex (j + 1) j (by omega) hbj
    have := h.2 i (by omega) h2 k hk (rch_tr h3 hr)
    omega
theorem MkK.yes {L : Nat → Int} {z : Int} {k : Nat} {mk : Nat → Int} (h : MkK L z k mk) (hf : fst1 L z k) : MkK L z (k + 1) (fun i => if cmp L z k i = true then (cnt (fstB L z) k : Nat) + 1 else mk i) := by
  refine ⟨fun i hi hne => ?_, fun j hj hfj i hi hr => ?_⟩
  · by_cases c : cmp L z k i = true
    · exact ⟨k, by omega, hf, (dcd_t.mp c).2⟩
    · dsimp only at hne
      rw [if_neg c] at hne
      obtain ⟨j, h1, h2⟩ := h.1 i hi hne
      exact ⟨j, by omega, h2⟩
  · dsimp only
    by_cases cj : j = k
    · subst cj
      have hc : cmp L z j i = true := dcd_t.mpr ⟨hf.1, hr⟩
      rw [if_pos hc]
    · by_cases c : cmp L z k i = true
      · exfalso
        have hk' := (dcd_t.mp c).2
        have := rch_tr hr (rch_sy hk' hf.1)
        exact hf.2 j (by omega) hfj.1 this
      · rw [if_neg c]; exact h.2 j (by omega) hfj i hi hr
abbrev fdI : List Nat := [38, 39]
abbrev fdA : List Nat := [30, 31, 32, 33, 37, 36, 35]
/-- all DOTS of a picture, in the Model -/
def DsM (L : Nat → Int) (z : Int) (P : PS) : Prop := gI P 0 39 = iI (nD L z : Nat) ∧ (∀ e, e < nDt L z → DtM e (dq L z e) P) ∧ ∀ i, i < nDt L z → gA P 0 35 i = iI (ordD L z (nDt L z) i : Nat)
theorem key_lt {s t : DT} (h1 : 0 ≤ s.1 ∧ s.1 ≤ 155) (h2 : 0 ≤ s.2.1 ∧ s.2.1 ≤ 155) (g1 : 0 ≤ t.1 ∧ t.1 ≤ 155) (g2 : 0 ≤ t.2.1 ∧ t.2.1 ≤ 155) : keyD t < keyD s ↔ (s.2.2.1 ≠ t.2.2.1 ∧ t.2.2.1 < s.2.2.1) ∨ (s.2.2.1 = t.2.2.1 ∧ ((s.2.1 ≠ t.2.1 ∧ s.2.1 < t.2.1) ∨ (s.2.1 = t.2.1 ∧ s.1 < t.1))) := by
  unfold keyD; omega
theorem M_isAhead {d a b : Nat} {s t : DT} {x y : Int32} {P : PS} {R : List PS} {Q : Option AV → List PS → Prop} (hx : x = iI (a : Nat)) (hy : y = iI (b : Nat)) (ha : a < 140) (hb : b < 140) (hs : DtM a s P) (ht : DtM b t P) (h1 : 0 ≤ s.1 ∧ s.1 ≤ 155) (h2 : 0 ≤ s.2.1 ∧ s.2.1 ≤ 155) (h3 : 0 ≤ s.2.2.1 ∧ s.2.2.1 ≤ 2304) (g1 : 0 ≤ t.1 ∧ t.1 ≤ 155) (g2 : 0 ≤ t.2.1 ∧ t.2.1 ≤ 155) (g3 : 0 ≤ t.2.2.1 ∧ t.2.2.1 ≤ 2304) (h : Q (some (vI (oI (decide (keyD t < keyD s))))) (P :: R)) : Tri 204 d [vR 0 0 0, vI x, vI y] (P :: R) Q := by
  subst hx hy
  have k := key_lt h1 h2 g1 g2
  refine enX12_isAhead ?_
  unfold fX12_isAhead_0
  have va : vp_in (iI (a : Nat)) 140 := vpk ha (by omega)
  have vb : vp_in (iI (b : Nat)) 140 := vpk hb (by omega)
  rw [iI_cl (a := (a : Nat)) (by omega) (by omega), iI_cl (a := (b : Nat)) (by omega) (by omega), Int.toNat_natCast, Int.toNat_natCast, hs.1, hs.2.1, hs.2.2.1, ht.1, ht.2.1, ht.2.2.1]
  simp (disch := omega) only [iI_eq, iI_le]
  have no : ¬ keyD t < keyD s → Q (some (vI (oI false))) (P :: R) := fun q => by rw [decide_eq_false q] at h; exact h
  have yes : keyD t < keyD s → Q (some (vI (oI true))) (P :: R) := fun q => by rw [decide_eq_true q] at h; exact h
  refine ⟨va, vb, fun c => ⟨va, vb, fun c1 => ⟨va, vb, fun c2 => ⟨Or.inl trivial, no (by omega)⟩, fun c2 => ⟨Or.inr trivial, yes (by omega)⟩⟩, fun c1 => ⟨va, vb, fun c2 => ⟨Or.inl trivial, no (by omega)⟩, fun c2 => ⟨Or.inr trivial, yes (by omega)⟩⟩⟩, fun c => ⟨va, vb, fun c2 => ⟨Or.inl trivial, no (by omega)⟩, fun c2 => ⟨Or.inr trivial, yes (by omega)⟩⟩⟩
theorem nDt_le (L : Nat → Int) (z : Int) : nDt L z ≤ 128 := fst_le L z 256 (by omega)
theorem dq_ok {L : Nat → Int} {z : Int} (hL : LOK L) (hz : 0 ≤ z) {e : Nat} (he : e < nDt L z) : (0 ≤ (dq L z e).1 ∧ (dq L z e).1 ≤ 155) ∧ (0 ≤ (dq L z e).2.1 ∧ (dq L z e).2.1 ≤ 155) ∧ (0 ≤ (dq L z e).2.2.1 ∧ (dq L z e).2.2.1 ≤ 2304) := by
  have := mkD_bd hL (dq_bd hL hz he)
  unfold dq
  omega
theorem M_fd133 {d p s : Nat} {L : Nat → Int} {z : Int} {PB : PS} {R : List PS} {Q : Option AV → List PS → Prop} (hL : LOK L) (hz : 0 ≤ z) (hs : s < nDt L z) (hD : ∀ e, e ≤ s → DtM e (dq L z e) PB)
    (h : ∀ P, Fr [] [] [35] [] PB P → (∀ i, i ≤ s → gA P 0 35 i = iI (ordD L z (s + 1) i : Nat)) → cX12_findDots_117 (0, 0, 0, 0) d (iI (p : Nat)) (iI ((s + 1 : Nat))) P R Q) : ∀ (k : Nat) (o : Nat → Nat) (P : PS), k ≤ s → Fr [] [] [35] [] PB P → shK (fun d => keyD (dq L z d)) s k o = ordD L z (s + 1) → (∀ i, i < k → o i < s) → (∀ i, i ≤ s → i ≠ k → gA P 0 35 i = iI (o i : Nat)) → cX12_findDots_133 (0, 0, 0, 0) d (iI (p : Nat)) (iI (s : Nat)) (iI (k : Nat)) P R Q := by
  have hn := nDt_le L z
  intro k
  induction k with
  | zero =>
    intro o P hk fP ho hlt hA
    refine gX12_findDots_133 ?_
    unfold fX12_findDots_133
    simp (disch := omega) only [iI_lit, iI_le, iI_in, iI_cl, iI_add, Int.toNat_natCast]
    refine ⟨fun _ => ⟨by omega, ?_⟩, fun c => absurd (by omega) c⟩
    refine h _ (fP.sA (by simp)) (fun i hi => ?_)
    rw [← ho, gA_sA, if_pos rfl, if_pos rfl]
    unfold shK upN
    by_cases c : i = 0
    · rw [if_pos c, if_pos c]
    · rw [if_neg c, if_neg c]; exact hA i hi c
  | succ k ih =>
    intro o P hk fP ho hlt hA
    have e1 := hA k (by omega) (by omega)
    have hok := hlt k (by omega)
    have dtm : ∀ e, e ≤ s → DtM e (dq L z e) P := fun e he => by
      have := hD e he
      unfold DtM at this ⊢
      rw [fP.2.2.2.1 _ _ (by simp), fP.2.2.2.1 _ _ (by simp), fP.2.2.2.1 _ _ (by simp), fP.2.2.2.1 _ _ (by simp), fP.2.2.2.1 _ _ (by simp)]; exact this
    have b1 := dq_ok hL hz hs
    have b2 := dq_ok hL hz (show o k < nDt L z by omega)
    refine gX12_findDots_133 ?_
    unfold fX12_findDots_133
    have ek : iI ((k + 1 : Nat)) - 1 = iI (k : Nat) := by rw [show (1 : Int32) = iI 1 from rfl, iI_sub]; refine congrArg iI ?_; omega
    have ek2 : iI ((k + 1 : Nat)) + -1 = iI (k : Nat) := by rw [show (-1 : Int32) = iI (-1) from rfl, iI_add]; refine congrArg iI ?_; omega
    have es : iI (s : Nat) + 1 = iI ((s + 1 : Nat)) := iI_add (s : Nat) 1
    have vk : vp_in (iI (k : Nat)) 140 := vpk (by omega) (by omega)
    have vk1 : vp_in (iI ((k + 1 : Nat))) 140 := vpk (by omega) (by omega)
    rw [ek, ek2, es, iI_cl (a := (k : Nat)) (by omega) (by omega), iI_cl (a := ((k + 1 : Nat) : Int)) (by omega) (by omega), Int.toNat_natCast, Int.toNat_natCast, e1]
    unfold shK at ho
    refine ⟨fun c => ?_, fun _ => ⟨vk, M_isAhead rfl rfl (by omega) (by omega) (dtm s (Nat.le_refl _)) (dtm (o k) (by omega)) b1.1 b1.2.1 b1.2.2 b2.1 b2.2.1 b2.2.2 ?_⟩⟩
    · rw [show (0 : Int32) = iI 0 from rfl, iI_le (by omega) (by omega) (by omega) (by omega)] at c; omega
    dsimp only [hx1, rI]
    rw [oI_dec, e1]
    refine ⟨fun c => ⟨vk1, ?_⟩, fun c => ⟨vk, vk1, ?_⟩⟩
    · rw [if_neg c] at ho
      refine h _ (fP.sA (by simp)) (fun i hi => ?_)
      rw [← ho, gA_sA, if_pos rfl, if_pos rfl]
      unfold upN
      by_cases c : i = k + 1
      · rw [if_pos c, if_pos c]
      · rw [if_neg c, if_neg c]; exact hA i hi c
    · rw [if_pos (Decidable.not_not.mp c)] at ho
      refine ih _ _ (by omega) (fP.sA (by simp)) ho (fun i hi => ?_) (fun i hi hne => ?_)
      · unfold upN; rw [if_neg (by omega)]; exact hlt i (by omega)
      · rw [gA_sA, if_pos rfl, if_pos rfl]
        unfold upN
        by_cases c : i = k + 1
        · rw [if_pos c, if_pos c]
        · rw [if_neg c, if_neg c]; exact hA i hi c
theorem M_fd117 {d p w : Nat} {L mk : Nat → Int} {z : Int} {PB : PS} {R : List PS} {Q : Option AV → List PS → Prop} (hK : LtK p w z L) (hP : PcM p w z L PB) (hm : MkM mk PB) (hM : MkK L z 256 mk) (hf : gI PB 0 38 = iI (nDt L z : Nat))
    (h : ∀ P, DsM L z P → Fr [39] [] (35 :: msA) [] PB P → Q none (P :: R)) : ∀ (m s : Nat) (P : PS), s + m = nDt L z → Fr [] [] (35 :: msA) [] PB P → (∀ e, e < s → DtM e (dq L z e) P) → (∀ i, i < s → gA P 0 35 i = iI (ordD L z s i : Nat)) → cX12_findDots_117 (0, 0, 0, 0) d (iI (p : Nat)) (iI (s : Nat)) P R Q := by
  have hn := nDt_le L z
  intro m
  induction m with
  | zero =>
    intro s P hs fP hD hA
    have es : s = nDt L z := by omega
    subst es
    refine gX12_findDots_117 ?_
    unfold fX12_findDots_117
    rw [fP.2.1 _ (by simp), hf, show (12 : Int32) = iI 12 from rfl, iI_le (by omega) (by omega) (by omega) (by omega), iI_le (by omega) (by omega) (by omega) (by omega)]
    have fin : ∀ v, iI v = iI (nD L z : Nat) → Q none ((sI P 0 39 (iI v)) :: R) := fun v hv => h _ ⟨hv, hD, hA⟩ ((fP.mono (by simp) (by simp) (by simp) (by simp)).sI (by simp))
    refine ⟨fun _ => ⟨fun c => fin _ ?_, fun c => fin _ ?_⟩, fun c => absurd (by omega) c⟩
    · unfold nD; rw [if_pos (by omega)]
    · unfold nD; rw [if_neg (by omega)]; rfl
  | succ m ih =>
    intro s P hs fP hD hA
    have pP : PcM p w z L P := hP.fr fP (by simp) (by simp)
    have mP : MkM mk P := fun i hi => by rw [fP.2.2.2.1 _ _ (by simp)]; exact hm i hi
    have hsn : s < nDt L z := by omega
    have nok := nth_ok (p := fstB L z) 256 hsn
    have hpx : fst1 L z (pxD L z s) := dcd_t.mp nok.2.1
    refine gX12_findDots_117 ?_
    unfold fX12_findDots_117
    rw [fP.2.1 _ (by simp), hf, iI_le (by omega) (by omega) (by omega) (by omega)]
    refine ⟨fun c => absurd c (by omega), fun _ => ?_⟩
    refine M_measure (S := cmp L z (pxD L z s)) rfl rfl hK pP (by omega) mP (fun i hi => ?_) (fun i hi hS => hK.brt (rch_br (dcd_t.mp hS).2 (dcd_t.mp hS).1)) (dq_bd hK.2.2.2.1 hK.2.2.1.1 hsn) (fun P' hd' hoth fP' => ?_)
    · constructor
      · intro hS
        have := hM.2 (pxD L z s) nok.1 hpx i hi (dcd_t.mp hS).2
        rw [this]
        have : cnt (fstB L z) (pxD L z s) = s := nok.2.2
        rw [this]
      · intro he
        obtain ⟨j, h1, h2, h3⟩ := hM.1 i hi (by omega)
        have := hM.2 j h1 h2 i hi h3
        have hc : cnt (fstB L z) j = s := by omega
        have : nth (fstB L z) (cnt (fstB L z) j) 256 = j := nth_at (dcd_t.mpr h2) 256 h1
        have e : pxD L z s = j := by unfold pxD; rw [← hc]; exact this
        rw [e]
        exact dcd_t.mpr ⟨h2.1, h3⟩
    · dsimp only [hx1, rV]
      have dAll : ∀ e, e ≤ s → DtM e (dq L z e) P' := fun e he => by
        by_cases ce : e = s
        · rw [ce]; exact hd'
        · have := hD e (by omega)
          have o := hoth e ce
          unfold DtM at this ⊢
          rw [o.1, o.2.1, o.2.2.1, o.2.2.2.1, o.2.2.2.2]; exact this
      have F1 : Fr [] [] (35 :: msA) [] PB P' := fP.trs (fP'.mono (by simp) (by simp) (by simp) (by simp))
      refine M_fd133 hK.2.2.2.1 hK.2.2.1.1 hsn dAll (fun P'' f'' a'' => ih (s + 1) P'' (by omega) (F1.trs (f''.mono (by simp) (by simp) (by simp) (by simp))) (fun e he => ?_) (fun i hi => a'' i (by omega))) s (ordD L z s) P' (Nat.le_refl _) Fr.rf rfl (fun i hi => ordK_in _ s i hi) (fun i hi hne => ?_)
      · have := dAll e (by omega)
        unfold DtM at this ⊢
        rw [f''.2.2.2.1 _ _ (by simp), f''.2.2.2.1 _ _ (by simp), f''.2.2.2.1 _ _ (by simp), f''.2.2.2.1 _ _ (by simp), f''.2.2.2.1 _ _ (by simp)]; exact this
      · rw [fP'.2.2.2.1 _ _ (by simp)]; exact hA i (by omega)
theorem M_findDots {d p w : Nat} {L : Nat → Int} {z : Int} {x : Int32} {P : PS} {R : List PS} {Q : Option AV → List PS → Prop} (hx : x = iI (p : Nat)) (hK : LtK p w z L) (hP : PcM p w z L P) (h : ∀ P', DsM L z P' → Fr fdI [] fdA [] P P' → Q none (P' :: R)) : Tri 205 (d + 2) [vR 0 0 0, vI x] (P :: R) Q := by
  subst hx
  have hw := hK.2.1
  refine enX12_findDots ?_
  unfold fX12_findDots_0
  have v0 : vp_in (0 : Int32) 12 := vpk (k := 0) (by omega) (by omega)
  have cells : ∀ (r : Nat), r < w → (∀ (A : PS) (mk : Nat → Int), PcM p w z L A → Fr fdI [] fdA [] P A → MkM mk A → MkK L z (16 * (r + 1)) mk → gI A 0 38 = iI (cnt (fstB L z) (16 * (r + 1)) : Nat) → cX12_findDots_29 (0, 0, 0, 0) (d + 1) (iI (p : Nat)) (iI ((r + 1 : Nat))) A R Q) → ∀ (n c : Nat) (A : PS) (mk : Nat → Int), c + n = w → PcM p w z L A → Fr fdI [] fdA [] P A → MkM mk A → MkK L z (16 * r + c) mk → gI A 0 38 = iI (cnt (fstB L z) (16 * r + c) : Nat) → cX12_findDots_41 (0, 0, 0, 0) (d + 1) (iI (p : Nat)) (iI (r : Nat)) (iI (c : Nat)) A R Q := by
    intro r hr out n
    induction n with
    | zero =>
      intro c A mk hc pA fA mA kA gA'
      refine gX12_findDots_41 ?_
      unfold fX12_findDots_41
      rw [show ((0 : Int32)).toNatClampNeg = 0 from rfl, pA.1, iI_le (by omega) (by omega) (by omega) (by omega)]
      refine ⟨v0, fun _ => ?_, fun q => absurd (by omega) q⟩
      rw [show iI (r : Nat) + 1 = iI ((r + 1 : Nat)) from iI_add (r : Nat) 1]
      -- from the row's end to the next row there is nothing bright
      have skip : ∀ t, t ≤ 16 - w → MkK L z (16 * r + w + t) mk ∧ cnt (fstB L z) (16 * r + w + t) = cnt (fstB L z) (16 * r + c) := by
        intro t
        induction t with
        | zero => intro _; rw [show 16 * r + w + 0 = 16 * r + c by omega]; exact ⟨kA, rfl⟩
        | succ t iht =>
          intro ht
          have ⟨i1, i2⟩ := iht (by omega)
          have nf : ¬ fst1 L z (16 * r + w + t) := fun q => by
            have := hK.brt q.1
            omega
          exact ⟨i1.no nf, by rw [show 16 * r + w + (t + 1) = 16 * r + w + t + 1 by omega, cnt_f0 nf]; exact i2⟩
      have sk := skip (16 - w) (Nat.le_refl _)
      rw [show 16 * r + w + (16 - w) = 16 * (r + 1) by omega] at sk
      exact out A mk pA fA mA sk.1 (by rw [sk.2]; exact gA')
    | succ n ih =>
      intro c A mk hc pA fA mA kA gA'
      have own := mA (16 * r + c) (by omega)
      have cb := fst_le L z (16 * r + c) (by omega)
      have eo : (16 : Int32) * iI (r : Nat) + iI (c : Nat) = iI ((16 * r + c : Nat)) := by rw [show (16 : Int32) = iI 16 from rfl, iI_mul, iI_add]; congr 1
      have en : iI (c : Nat) + 1 = iI ((c + 1 : Nat)) := iI_add (c : Nat) 1
      have next : ¬ fst1 L z (16 * r + c) → cX12_findDots_41 (0, 0, 0, 0) (d + 1) (iI (p : Nat)) (iI (r : Nat)) (iI ((c + 1 : Nat))) A R Q := fun nf => ih (c + 1) A mk (by omega) pA fA mA (kA.no nf) (by rw [show 16 * r + (c + 1) = 16 * r + c + 1 by omega, cnt_f0 nf]; exact gA')
      have vo : vp_in (iI ((16 * r + c : Nat))) 256 := vpk (by omega) (by omega)
      refine gX12_findDots_41 ?_
      unfold fX12_findDots_41
      rw [show ((0 : Int32)).toNatClampNeg = 0 from rfl, pA.1, eo, en, iI_cl (a := ((16 * r + c : Nat) : Int)) (by omega) (by omega), Int.toNat_natCast, own.1, iI_le (by omega) (by omega) (by omega) (by omega)]
      refine ⟨v0, fun q => absurd q (by omega), fun _ => ⟨vo, fun q => next (fun hf => ?_), fun q => M_isBright rfl rfl pA hK hr (by omega) ?_⟩⟩
      · exact q (by rw [(kA.f (by omega) hf.1).mp hf]; rfl)
      dsimp only [hx1, rI]
      rw [oI_dec]
      rw [show (0 : Int32) = iI 0 from rfl, iI_eq (by omega) (by omega) (by omega) (by omega)] at q
      refine ⟨fun qb => ?_, fun qb => next (fun hf => qb hf.1.2)⟩
      have hb : brt L z (16 * r + c) := ⟨by omega, Decidable.not_not.mp qb⟩
      have hf : fst1 L z (16 * r + c) := (kA.f (by omega) hb).mpr q
      rw [gA', show iI (cnt (fstB L z) (16 * r + c) : Nat) + 1 = iI ((cnt (fstB L z) (16 * r + c) : Nat) + 1) from iI_add _ 1]
      refine M_spread (mk := mk) rfl rfl hK (pA.fr (Fr.rf.sI (is := [38]) (ls := []) (as := []) (bs := []) (by simp)) (by simp) (by simp)) (by omega) mA hb q (fun i hi => ?_) (fun i hi hne => ?_) (fun i j hi hne had hbj => ?_) (fun P' m' f' => ?_)
      · by_cases c0 : mk i = 0
        · omega
        · obtain ⟨j, h1, h2, h3⟩ := kA.1 i hi c0
          have e := kA.2 j h1 h2 i hi h3
          have := cnt_le_mono (fstB L z) (show j + 1 ≤ 16 * r + c by omega)
          rw [cnt_f1 h2] at this
          omega
      · obtain ⟨j, h1, h2, h3⟩ := kA.1 i hi hne
        exact rch_br h3 h2.1
      · obtain ⟨j', h1, h2, h3⟩ := kA.1 i hi hne
        rw [kA.2 j' h1 h2 i hi h3]
        exact kA.2 j' h1 h2 j hbj.1 (rch_st h3 had hbj)
      · dsimp only [hx1, rV]
        have F1 : Fr fdI [] fdA [] P P' := (fA.sI (by simp)).trs (f'.mono (by simp) (by simp) (by simp) (by simp))
        refine ih (c + 1) P' _ (by omega) (hP.fr F1 (by simp) (by simp)) F1 m' (kA.yes hf) ?_
        rw [f'.2.1 _ (by simp), show 16 * r + (c + 1) = 16 * r + c + 1 by omega, cnt_f1 hf]
        rfl
  have rows : ∀ (n r : Nat) (A : PS) (mk : Nat → Int), r + n = w → PcM p w z L A → Fr fdI [] fdA [] P A → MkM mk A → MkK L z (16 * r) mk → gI A 0 38 = iI (cnt (fstB L z) (16 * r) : Nat) → cX12_findDots_29 (0, 0, 0, 0) (d + 1) (iI (p : Nat)) (iI (r : Nat)) A R Q := by
    intro n
    induction n with
    | zero =>
      intro r A mk hr pA fA mA kA gA'
      refine gX12_findDots_29 ?_
      unfold fX12_findDots_29
      rw [show ((0 : Int32)).toNatClampNeg = 0 from rfl, pA.1, iI_le (by omega) (by omega) (by omega) (by omega)]
      refine ⟨v0, fun _ => ?_, fun q => absurd (by omega) q⟩
      have skip : ∀ t, t ≤ 256 - 16 * w → MkK L z (16 * r + t) mk ∧ cnt (fstB L z) (16 * r + t) = cnt (fstB L z) (16 * r) := by
        intro t
        induction t with
        | zero => intro _; exact ⟨kA, rfl⟩
        | succ t iht =>
          intro ht
          have ⟨i1, i2⟩ := iht (by omega)
          have nf : ¬ fst1 L z (16 * r + t) := fun q => by
            have := hK.brt q.1
            omega
          exact ⟨i1.no nf, by rw [show 16 * r + (t + 1) = 16 * r + t + 1 by omega, cnt_f0 nf]; exact i2⟩
      have sk := skip (256 - 16 * w) (Nat.le_refl _)
      rw [show 16 * r + (256 - 16 * w) = 256 by omega] at sk
      exact M_fd117 hK pA mA sk.1 (by rw [gA', ← sk.2]; rfl) (fun P' d' f' => h P' d' (fA.trs (f'.mono (by simp) (by simp) (by simp) (by simp)))) (nDt L z) 0 A (by omega) Fr.rf (fun e he => absurd he (Nat.not_lt_zero e)) (fun e he => absurd he (Nat.not_lt_zero e))
    | succ n ih =>
      intro r A mk hr pA fA mA kA gA'
      refine gX12_findDots_29 ?_
      unfold fX12_findDots_29
      rw [show ((0 : Int32)).toNatClampNeg = 0 from rfl, pA.1, iI_le (by omega) (by omega) (by omega) (by omega)]
      refine ⟨v0, fun q => absurd q (by omega), fun _ => ?_⟩
      exact cells r (by omega) (fun A' mk' p' f' m' k' g' => ih (r + 1) A' mk' (by omega) p' f' m' k' g') w 0 A mk (by omega) pA fA mA kA gA'
  have clr : ∀ (m k : Nat) (A : PS), k + m = 256 → Fr fdI [] fdA [] P A → gI A 0 38 = iI 0 → (∀ i, i < k → gA A 0 36 i = 0) → cX12_findDots_7 (0, 0, 0, 0) (d + 1) (iI (p : Nat)) (iI (k : Nat)) A R Q := by
    intro m
    induction m with
    | zero =>
      intro k A hk fA gf hz
      refine gX12_findDots_7 ?_
      unfold fX12_findDots_7
      rw [show (256 : Int32) = iI 256 from rfl, iI_le (by omega) (by omega) (by omega) (by omega)]
      refine ⟨fun _ => ?_, fun q => absurd (by omega) q⟩
      exact rows w 0 A (fun _ => 0) (by omega) (hP.fr fA (by simp) (by simp)) fA (fun i hi => ⟨by rw [hz i (by omega)]; rfl, (by decide : (0 : Int) ≤ 0), (by decide : (0 : Int) ≤ 200)⟩) ⟨fun i _ hne => absurd rfl hne, fun j hj => absurd hj (Nat.not_lt_zero j)⟩ gf
    | succ m ih =>
      intro k A hk fA gf hz
      refine gX12_findDots_7 ?_
      unfold fX12_findDots_7
      rw [show (256 : Int32) = iI 256 from rfl, iI_le (by omega) (by omega) (by omega) (by omega), iI_cl (a := (k : Nat)) (by omega) (by omega), Int.toNat_natCast, show iI (k : Nat) + 1 = iI ((k + 1 : Nat)) from iI_add (k : Nat) 1]
      refine ⟨fun q => absurd q (by omega), fun _ => ⟨vpk (by omega) (by omega), ih (k + 1) _ (by omega) (fA.sA (by simp)) gf (fun i hi => ?_)⟩⟩
      rw [gA_sA, if_pos rfl, if_pos rfl]
      by_cases c : i = k
      · rw [if_pos c]
      · rw [if_neg c]; exact hz i (by omega)
  exact clr 256 0 _ (by omega) (Fr.rf.sI (by simp)) rfl (fun i hi => absurd hi (Nat.not_lt_zero i))
