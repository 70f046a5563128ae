/-! ===== the Model: a DOT's pixels are marked ===== -/
/-- the picture p in the Model -/
def PcM (p w : Nat) (z : Int) (L : Nat → Int) (P : PS) : Prop := gA P 0 12 0 = iI (w : Nat) ∧ gA P 0 12 3 = iI z ∧ ∀ r c, r < w → c < w → gA P 0 23 (256 * p + (16 * r + c)) = iI (L (16 * r + c))
/-- what holds of lights at all -/
def LtK (p w : Nat) (z : Int) (L : Nat → Int) : Prop := p < 12 ∧ (4 ≤ w ∧ w ≤ 16) ∧ (0 ≤ z ∧ z ≤ 9) ∧ LOK L ∧ ∀ i, (w ≤ i % 16 ∨ w ≤ i / 16) → L i = 0
theorem LtK.brt {p w : Nat} {z : Int} {L : Nat → Int} (h : LtK p w z L) {i : Nat} (hb : brt L z i) : i % 16 < w ∧ i / 16 < w := by
  refine ⟨?_, ?_⟩
  · by_cases c : i % 16 < w
    · exact c
    · have := h.2.2.2.2 i (Or.inl (by omega)); have := hb.2; have := h.2.2.1; omega
  · by_cases c : i / 16 < w
    · exact c
    · have := h.2.2.2.2 i (Or.inr (by omega)); have := hb.2; have := h.2.2.1; omega
theorem PcM.fr {p w : Nat} {z : Int} {L : Nat → Int} {P P' : PS} {is ls as bs : List Nat} (h : PcM p w z L P) (hf : Fr is ls as bs P P') (h1 : 12 ∉ as) (h2 : 23 ∉ as) : PcM p w z L P' :=
  ⟨by rw [hf.2.2.2.1 _ _ h1]; exact h.1, by rw [hf.2.2.2.1 _ _ h1]; exact h.2.1, fun r c hr hc => by rw [hf.2.2.2.1 _ _ h2]; exact h.2.2 r c hr hc⟩
def MkM (k : Nat → Int) (P : PS) : Prop := ∀ i, i < 256 → gA P 0 36 i = iI (k i) ∧ 0 ≤ k i ∧ k i ≤ 200
theorem M_isBright {d p w r c : Nat} {z : Int} {L : Nat → Int} {x y : Int32} {P : PS} {R : List PS} {Q : Option AV → List PS → Prop} (hx : x = iI (p : Nat)) (hy : y = iI ((16 * r + c : Nat))) (hP : PcM p w z L P) (hK : LtK p w z L) (hr : r < w) (hc : c < w) (h : Q (some (vI (oI (decide (z < L (16 * r + c)))))) (P :: R)) : Tri 201 d [vR 0 0 0, vI x, vI y] (P :: R) Q := by
  subst hx hy
  have hw := hK.2.1
  have hp := hK.1
  have hl := hK.2.2.2.1 (16 * r + c)
  have hz := hK.2.2.1
  refine enX12_isBright ?_
  unfold fX12_isBright_0
  simp (disch := omega) only [show (256 : Int32) = iI 256 from rfl, iI_mul, iI_add, iI_in, iI_cl]
  rw [show (256 * ((p : Nat) : Int) + ((16 * r + c : Nat) : Int)).toNat = 256 * p + (16 * r + c) by omega, hP.2.2 r c hr hc, show ((3 : Int32)).toNatClampNeg = 3 from rfl, hP.2.1]
  simp (disch := omega) only [iI_le]
  refine ⟨by omega, vpk (k := 3) (by omega) (by omega), fun c => ⟨Or.inl trivial, ?_⟩, fun c => ⟨Or.inr trivial, ?_⟩⟩
  · rw [decide_eq_false (by omega)] at h; exact h
  · rw [decide_eq_true (by omega)] at h; exact h
def nbr (w : Nat) (k : Nat → Int) (m : Int) (r c : Nat) : Prop := (0 < c ∧ k (16 * r + c - 1) = m) ∨ (c + 1 < w ∧ k (16 * r + c + 1) = m) ∨ (0 < r ∧ k (16 * r + c - 16) = m) ∨ (r + 1 < w ∧ k (16 * r + c + 16) = m)
section SP
variable {d p w : Nat} {z m : Int} {L k : Nat → Int} {P : PS} {R : List PS} {Q : Option AV → List PS → Prop}
theorem M_sp174 {r c : Nat} {x4 s : Int32} {q : Bool} (hw : w ≤ 16) (hr : r < w) (hc : c < w) (hs : s = oI q) (h0 : q = false → cX12_spread_35 (0, 0, 0, 0) d (iI (p : Nat)) (iI m) x4 (iI (r : Nat)) (iI ((c + 1 : Nat))) P R Q) (h1 : q = true → cX12_spread_35 (0, 0, 0, 0) d (iI (p : Nat)) (iI m) 1 (iI (r : Nat)) (iI ((c + 1 : Nat))) (sA P 0 36 (16 * r + c) (iI m)) R Q) : cX12_spread_174 (0, 0, 0, 0) d (iI (p : Nat)) (iI m) x4 (iI (r : Nat)) (iI (c : Nat)) (iI ((16 * r + c : Nat))) s P R Q := by
  subst hs
  refine gX12_spread_174 ?_
  unfold fX12_spread_174
  rw [oI_z]
  simp (disch := omega) only [iI_in, iI_cl, Int.toNat_natCast]
  have e : iI (c : Nat) + 1 = iI ((c + 1 : Nat)) := iI_add (c : Nat) 1
  rw [e]
  refine ⟨fun cq => ⟨by omega, h1 (by simpa using cq)⟩, fun cq => h0 cq⟩
theorem M_sp123 {r c : Nat} {x4 : Int32} (hw : 4 ≤ w ∧ w ≤ 16) (hr : r < w) (hc : c < w) (hm : 0 ≤ m ∧ m ≤ 200) (ht : gA P 0 12 0 = iI (w : Nat)) (hk : MkM k P) (h0 : ¬ ((0 < r ∧ k (16 * r + c - 16) = m) ∨ (r + 1 < w ∧ k (16 * r + c + 16) = m)) → cX12_spread_35 (0, 0, 0, 0) d (iI (p : Nat)) (iI m) x4 (iI (r : Nat)) (iI ((c + 1 : Nat))) P R Q) (h1 : ((0 < r ∧ k (16 * r + c - 16) = m) ∨ (r + 1 < w ∧ k (16 * r + c + 16) = m)) → cX12_spread_35 (0, 0, 0, 0) d (iI (p : Nat)) (iI m) 1 (iI (r : Nat)) (iI ((c + 1 : Nat))) (sA P 0 36 (16 * r + c) (iI m)) R Q) : cX12_spread_123 (0, 0, 0, 0) d (iI (p : Nat)) (iI m) x4 (iI (r : Nat)) (iI (c : Nat)) (iI ((16 * r + c : Nat))) P R Q := by
  refine gX12_spread_123 ?_
  unfold fX12_spread_123
  rw [show ((0 : Int32)).toNatClampNeg = 0 from rfl, ht]
  have v0 : vp_in (0 : Int32) 12 := vpk (k := 0) (by omega) (by omega)
  have go : ∀ b : Bool, (b = true ↔ ((0 < r ∧ k (16 * r + c - 16) = m) ∨ (r + 1 < w ∧ k (16 * r + c + 16) = m))) → cX12_spread_174 (0, 0, 0, 0) d (iI (p : Nat)) (iI m) x4 (iI (r : Nat)) (iI (c : Nat)) (iI ((16 * r + c : Nat))) (oI b) P R Q := fun b hb => M_sp174 hw.2 hr hc rfl (fun q => h0 (fun g => by rw [hb.mpr g] at q; exact absurd q (by decide))) (fun q => h1 (hb.mp q))
  have low : (r + 1 < w → gA P 0 36 (16 * r + c + 16) = iI (k (16 * r + c + 16)) ∧ 0 ≤ k (16 * r + c + 16) ∧ k (16 * r + c + 16) ≤ 200) := fun q => hk _ (by omega)
  have rest : (¬ (0 < r ∧ k (16 * r + c - 16) = m)) → (((iI (w : Nat) - 1) ≤ iI (r : Nat) → cX12_spread_174 (0, 0, 0, 0) d (iI (p : Nat)) (iI m) x4 (iI (r : Nat)) (iI (c : Nat)) (iI ((16 * r + c : Nat))) 0 P R Q) ∧ (¬ (iI (w : Nat) - 1) ≤ iI (r : Nat) → vp_in (iI ((16 * r + c : Nat)) + 16) 256 ∧ ((¬ (gA P 0 36 ((iI ((16 * r + c : Nat)) + 16)).toNatClampNeg) = iI m → cX12_spread_174 (0, 0, 0, 0) d (iI (p : Nat)) (iI m) x4 (iI (r : Nat)) (iI (c : Nat)) (iI ((16 * r + c : Nat))) 0 P R Q) ∧ ((gA P 0 36 ((iI ((16 * r + c : Nat)) + 16)).toNatClampNeg) = iI m → cX12_spread_174 (0, 0, 0, 0) d (iI (p : Nat)) (iI m) x4 (iI (r : Nat)) (iI (c : Nat)) (iI ((16 * r + c : Nat))) 1 P R Q)))) := by
    intro hno
    have e16 : iI ((16 * r + c : Nat)) + 16 = iI ((16 * r + c + 16 : Nat)) := iI_add _ 16
    have e1 : iI (w : Nat) - 1 = iI ((w : Int) - 1) := iI_sub _ 1
    rw [e16, e1, iI_le (by omega) (by omega) (by omega) (by omega)]
    refine ⟨fun q => go false ⟨fun g => absurd g (by decide), fun g => ?_⟩, fun q => ?_⟩
    · rcases g with g | g
      · exact absurd g hno
      · omega
    · have lo := low (by omega)
      rw [iI_in (by omega) (by omega), iI_cl (by omega) (by omega), Int.toNat_natCast, lo.1, iI_eq (by omega) (by omega) (by omega) (by omega)]
      refine ⟨by omega, fun g => go false ⟨fun g' => absurd g' (by decide), fun g' => ?_⟩, fun g => go true ⟨fun _ => Or.inr ⟨by omega, g⟩, fun _ => rfl⟩⟩
      rcases g' with g' | g'
      · exact absurd g' hno
      · exact absurd g'.2 g
  refine ⟨fun q => ⟨v0, rest (fun g => ?_)⟩, fun q => ?_⟩
  · rw [show (0 : Int32) = iI 0 from rfl, iI_le (by omega) (by omega) (by omega) (by omega)] at q; omega
  · rw [show (0 : Int32) = iI 0 from rfl, iI_le (by omega) (by omega) (by omega) (by omega)] at q
    have up := hk (16 * r + c - 16) (by omega)
    have e16 : iI ((16 * r + c : Nat)) - 16 = iI ((16 * r + c - 16 : Nat)) := by
      rw [show (16 : Int32) = iI 16 from rfl, iI_sub]; congr 1; omega
    rw [e16, iI_in (by omega) (by omega), iI_cl (by omega) (by omega), Int.toNat_natCast, up.1, iI_eq (by omega) (by omega) (by omega) (by omega)]
    exact ⟨by omega, fun g => go true ⟨fun _ => Or.inl ⟨by omega, g⟩, fun _ => rfl⟩, fun g => ⟨v0, rest (fun g' => g g'.2)⟩⟩
theorem M_sp35 {r c : Nat} {x4 : Int32} (hK : LtK p w z L) (hP : PcM p w z L P) (hr : r < w) (hc : c < w) (hm : 0 ≤ m ∧ m ≤ 200) (hk : MkM k P) (h0 : (k (16 * r + c) ≠ 0 ∨ ¬ z < L (16 * r + c) ∨ ¬ nbr w k m r c) → cX12_spread_35 (0, 0, 0, 0) d (iI (p : Nat)) (iI m) x4 (iI (r : Nat)) (iI ((c + 1 : Nat))) P R Q) (h1 : k (16 * r + c) = 0 → z < L (16 * r + c) → nbr w k m r c → cX12_spread_35 (0, 0, 0, 0) d (iI (p : Nat)) (iI m) 1 (iI (r : Nat)) (iI ((c + 1 : Nat))) (sA P 0 36 (16 * r + c) (iI m)) R Q) : cX12_spread_35 (0, 0, 0, 0) d (iI (p : Nat)) (iI m) x4 (iI (r : Nat)) (iI (c : Nat)) P R Q := by
  have hw := hK.2.1
  have hown := hk (16 * r + c) (by omega)
  have v0 : vp_in (0 : Int32) 12 := vpk (k := 0) (by omega) (by omega)
  refine gX12_spread_35 ?_
  unfold fX12_spread_35
  have eo : (16 : Int32) * iI (r : Nat) + iI (c : Nat) = iI ((16 * r + c : Nat)) := by
    rw [show (16 : Int32) = iI 16 from rfl, iI_mul, iI_add]; congr 1
  have en : iI (c : Nat) + 1 = iI ((c + 1 : Nat)) := iI_add (c : Nat) 1
  rw [show ((0 : Int32)).toNatClampNeg = 0 from rfl, hP.1, eo, en, iI_in (by omega) (by omega), iI_cl (a := ((16 * r + c : Nat) : Int)) (by omega) (by omega), Int.toNat_natCast, hown.1, iI_le (by omega) (by omega) (by omega) (by omega)]
  refine ⟨v0, fun q => absurd q (by omega), fun _ => ⟨by omega, fun q => h0 (Or.inl (fun g => q (by rw [g]; rfl))), fun q => M_isBright rfl rfl hP hK hr hc ?_⟩⟩
  dsimp only [hx1, rI]
  rw [show (0 : Int32) = iI 0 from rfl, iI_eq (by omega) (by omega) (by omega) (by omega)] at q
  rw [oI_dec, hP.1]
  refine ⟨fun qb => ?_, fun qb => h0 (Or.inr (Or.inl qb))⟩
  have qb' := Decidable.not_not.mp qb
  have e1 : iI (w : Nat) - 1 = iI ((w : Int) - 1) := iI_sub _ 1
  have e2 : iI ((16 * r + c : Nat)) + 1 = iI ((16 * r + c + 1 : Nat)) := iI_add _ 1
  have down : (¬ (0 < c ∧ k (16 * r + c - 1) = m)) → (¬ (c + 1 < w ∧ k (16 * r + c + 1) = m)) → cX12_spread_123 (0, 0, 0, 0) d (iI (p : Nat)) (iI m) x4 (iI (r : Nat)) (iI (c : Nat)) (iI ((16 * r + c : Nat))) P R Q := fun n1 n2 => M_sp123 hw hr hc hm hP.1 hk (fun g => h0 (Or.inr (Or.inr (fun g' => by
    rcases g' with a | a | a | a
    · exact n1 a
    · exact n2 a
    · exact g (Or.inl a)
    · exact g (Or.inr a))))) (fun g => h1 q qb' (by rcases g with a | a; exact Or.inr (Or.inr (Or.inl a)); exact Or.inr (Or.inr (Or.inr a))))
  have right : (¬ (0 < c ∧ k (16 * r + c - 1) = m)) → (((iI (w : Nat) - 1) ≤ iI (c : Nat) → cX12_spread_123 (0, 0, 0, 0) d (iI (p : Nat)) (iI m) x4 (iI (r : Nat)) (iI (c : Nat)) (iI ((16 * r + c : Nat))) P R Q) ∧ (¬ (iI (w : Nat) - 1) ≤ iI (c : Nat) → vp_in (iI ((16 * r + c : Nat)) + 1) 256 ∧ (((gA P 0 36 ((iI ((16 * r + c : Nat)) + 1)).toNatClampNeg) = iI m → cX12_spread_174 (0, 0, 0, 0) d (iI (p : Nat)) (iI m) x4 (iI (r : Nat)) (iI (c : Nat)) (iI ((16 * r + c : Nat))) 1 P R Q) ∧ (¬ (gA P 0 36 ((iI ((16 * r + c : Nat)) + 1)).toNatClampNeg) = iI m → cX12_spread_123 (0, 0, 0, 0) d (iI (p : Nat)) (iI m) x4 (iI (r : Nat)) (iI (c : Nat)) (iI ((16 * r + c : Nat))) P R Q)))) := by
    intro n1
    rw [e1, e2, iI_le (by omega) (by omega) (by omega) (by omega)]
    refine ⟨fun g => down n1 (fun g' => by omega), fun g => ?_⟩
    have lo := hk (16 * r + c + 1) (by omega)
    rw [iI_in (by omega) (by omega), iI_cl (by omega) (by omega), Int.toNat_natCast, lo.1, iI_eq (by omega) (by omega) (by omega) (by omega)]
    exact ⟨by omega, fun g' => M_sp174 (q := true) hw.2 hr hc rfl (fun a => absurd a (by decide)) (fun _ => h1 q qb' (Or.inr (Or.inl ⟨by omega, g'⟩))), fun g' => down n1 (fun a => g' a.2)⟩
  refine ⟨fun g => ⟨v0, right (fun a => ?_)⟩, fun g => ?_⟩
  · rw [show (0 : Int32) = iI 0 from rfl, iI_le (by omega) (by omega) (by omega) (by omega)] at g; omega
  · rw [show (0 : Int32) = iI 0 from rfl, iI_le (by omega) (by omega) (by omega) (by omega)] at g
    have lo := hk (16 * r + c - 1) (by omega)
    have e3 : iI ((16 * r + c : Nat)) - 1 = iI ((16 * r + c - 1 : Nat)) := by
      rw [show (1 : Int32) = iI 1 from rfl, iI_sub]; congr 1; omega
    rw [e3, iI_in (by omega) (by omega), iI_cl (by omega) (by omega), Int.toNat_natCast, lo.1, iI_eq (by omega) (by omega) (by omega) (by omega)]
    exact ⟨by omega, fun g' => M_sp174 (q := true) hw.2 hr hc rfl (fun a => absurd a (by decide)) (fun _ => h1 q qb' (Or.inl ⟨by omega, g'⟩)), fun g' => ⟨v0, right (fun a => g' a.2)⟩⟩
end SP
def unm (k : Nat → Int) : Nat := cnt (fun i => decide (k i = 0)) 256
def upZ (k : Nat → Int) (i : Nat) (v : Int) : Nat → Int := fun j => if j = i then v else k j
theorem unm_up {k : Nat → Int} {i : Nat} {m : Int} (hi : i < 256) (hk : k i = 0) (hm : m ≠ 0) : unm (upZ k i m) < unm k := by
  unfold unm
  have := cnt_upd (p := fun j => decide (upZ k i m j = 0)) (q := fun j => decide (k j = 0)) (k := i) (decide_eq_false (by unfold upZ; rw [if_pos rfl]; exact hm)) (decide_eq_true hk) (fun j hj => by unfold upZ; rw [if_neg hj]) 256 hi
  omega
theorem MkM.up {k : Nat → Int} {i : Nat} {m : Int} {P : PS} (h : MkM k P) (hm : 0 ≤ m ∧ m ≤ 200) : MkM (upZ k i m) (sA P 0 36 i (iI m)) := fun j hj => by
  rw [gA_sA, if_pos rfl, if_pos rfl]
  unfold upZ
  by_cases c : j = i
  · rw [if_pos c, if_pos c]; exact ⟨rfl, hm⟩
  · rw [if_neg c, if_neg c]; exact h j hj
theorem M_spread {d p w a : Nat} {z m : Int} {L mk : Nat → Int} {x y : Int32} {P : PS} {R : List PS} {Q : Option AV → List PS → Prop} (hx : x = iI (p : Nat)) (hy : y = iI (a : Nat)) (hK : LtK p w z L) (hP : PcM p w z L P) (hm : 1 ≤ m ∧ m ≤ 200) (hk : MkM mk P) (hb : brt L z a) (h0 : mk a = 0) (hnm : ∀ i, i < 256 → mk i ≠ m) (hbr : ∀ i, i < 256 → mk i ≠ 0 → brt L z i) (hcl : ∀ i j, i < 256 → mk i ≠ 0 → adj i j → brt L z j → mk j = mk i)
    (h : ∀ P', MkM (fun i => if cmp L z a i = true then m else mk i) P' → Fr [] [] [36] [] P P' → Q none (P' :: R)) : Tri 202 (d + 1) [vR 0 0 0, vI x, vI y, vI (iI m)] (P :: R) Q := by
  subst hx hy
  have hw := hK.2.1
  refine enX12_spread ?_
  unfold fX12_spread_0
  have ha : a < 256 := hb.1
  -- what is marked lies in the DOT
  have can : ∀ i, brt L z a → rch L z a i → mk i = 0 := fun i hb hr => by
    have hbi := rch_br hr hb
    by_cases c : mk i = 0
    · exact c
    · have back := rch_sy hr hb
      have := back (fun q => q < 256 ∧ mk q = mk i) ⟨hbi.1, rfl⟩ (fun q r hq had hbr' => ⟨hbr'.1, by rw [← hq.2]; exact hcl q r hq.1 (by rw [hq.2]; exact c) had hbr'⟩)
      rw [h0] at this
      exact absurd this.2.symm c
  -- the state between: only zeros of the DOT have become m
  have fin : ∀ (k : Nat → Int) (A : PS), MkM k A → Fr [] [] [36] [] P A → k a = m → (∀ i, i < 256 → k i ≠ mk i → mk i = 0 ∧ k i = m ∧ rch L z a i) → (∀ r c, r < w → c < w → k (16 * r + c) ≠ 0 ∨ ¬ z < L (16 * r + c) ∨ ¬ nbr w k m r c) → Q none (A :: R) := by
    intro k A kA fA ka I D
    refine h A (fun i hi => ?_) fA
    have e : k i = if cmp L z a i = true then m else mk i := by
      by_cases c : cmp L z a i = true
      · rw [if_pos c]
        have hr := (dcd_t.mp c).2
        have := hr (fun q => q < 256 ∧ k q = m) ⟨ha, ka⟩ (fun q r hq had hbr' => ⟨hbr'.1, ?_⟩)
        · exact this.2
        · have inw := hK.brt hbr'
          have bq : brt L z q := by
            by_cases cq : k q = mk q
            · exact hbr q hq.1 (by rw [← cq, hq.2]; omega)
            · exact rch_br (I q hq.1 cq).2.2 hb
          have inq := hK.brt bq
          have h256 := hbr'.1
          have Dr := D (r / 16) (r % 16) inw.2 inw.1
          rw [show 16 * (r / 16) + r % 16 = r by omega] at Dr
          have kr : k r ≠ 0 := by
            rcases Dr with g | g | g
            · exact g
            · exact absurd hbr'.2 g
            · refine absurd ?_ g
              unfold nbr
              rw [show 16 * (r / 16) + r % 16 = r by omega]
              unfold adj at had
              rcases had with ⟨e, e'⟩ | ⟨e, e'⟩ | e | e
              · exact Or.inl ⟨by omega, by rw [show r - 1 = q by omega]; exact hq.2⟩
              · exact Or.inr (Or.inl ⟨by omega, by rw [← e]; exact hq.2⟩)
              · exact Or.inr (Or.inr (Or.inl ⟨by omega, by rw [show r - 16 = q by omega]; exact hq.2⟩))
              · exact Or.inr (Or.inr (Or.inr ⟨by omega, by rw [← e]; exact hq.2⟩))
          by_cases cr : k r = mk r
          · exfalso
            have e1 := hcl r q h256 (by rw [← cr]; exact kr) (adj_sym had) bq
            by_cases cq : k q = mk q
            · exact hnm q hq.1 (by rw [← cq]; exact hq.2)
            · have := (I q hq.1 cq).1
              rw [this] at e1
              exact kr (by rw [cr]; exact e1.symm)
          · exact (I r h256 cr).2.1
      · rw [if_neg c]
        by_cases cq : k i = mk i
        · exact cq
        · exact absurd (dcd_t.mpr ⟨hb, (I i hi cq).2.2⟩) c
    dsimp only
    rw [← e]; exact kA i hi
  have sweep : ∀ (u : Nat) (k : Nat → Int) (A : PS), unm k < u → MkM k A → Fr [] [] [36] [] P A → k a = m → (∀ i, i < 256 → k i ≠ mk i → mk i = 0 ∧ k i = m ∧ rch L z a i) → cX12_spread_10 (0, 0, 0, 0) d (iI (p : Nat)) (iI m) 1 A R Q := by
    intro u
    induction u with
    | zero => intro k A hu; omega
    | succ u ihu =>
      intro k0 A0 hu0 kA0 fA0 ka0 I0
      refine gX12_spread_10 ?_
      unfold fX12_spread_10
      refine ⟨fun c => absurd c (by decide), fun _ => ?_⟩
      -- one sweep
      have done : ∀ (k : Nat → Int) (A : PS) (mo : Bool), MkM k A → Fr [] [] [36] [] P A → k a = m → (∀ i, i < 256 → k i ≠ mk i → mk i = 0 ∧ k i = m ∧ rch L z a i) → (mo = true → unm k < unm k0) → (mo = false → ∀ r c, r < w → c < w → k (16 * r + c) ≠ 0 ∨ ¬ z < L (16 * r + c) ∨ ¬ nbr w k m r c) → cX12_spread_10 (0, 0, 0, 0) d (iI (p : Nat)) (iI m) (oI mo) A R Q := by
        intro k A mo kA fA ka I U D
        cases mo with
        | true => exact ihu k A (by have := U rfl; omega) kA fA ka I
        | false =>
          refine gX12_spread_10 ?_
          unfold fX12_spread_10
          exact ⟨fun _ => fin k A kA fA ka I (D rfl), fun c => absurd rfl c⟩
      have cells : ∀ (r : Nat), r < w → (∀ (k : Nat → Int) (A : PS) (mo : Bool), MkM k A → Fr [] [] [36] [] P A → k a = m → (∀ i, i < 256 → k i ≠ mk i → mk i = 0 ∧ k i = m ∧ rch L z a i) → (mo = true → unm k < unm k0) → unm k ≤ unm k0 → (mo = false → ∀ r' c, r' < r + 1 → c < w → k (16 * r' + c) ≠ 0 ∨ ¬ z < L (16 * r' + c) ∨ ¬ nbr w k m r' c) → cX12_spread_21 (0, 0, 0, 0) d (iI (p : Nat)) (iI m) (oI mo) (iI ((r + 1 : Nat))) A R Q) → ∀ (n c : Nat) (k : Nat → Int) (A : PS) (mo : Bool), c + n = w → MkM k A → Fr [] [] [36] [] P A → k a = m → (∀ i, i < 256 → k i ≠ mk i → mk i = 0 ∧ k i = m ∧ rch L z a i) → (mo = true → unm k < unm k0) → unm k ≤ unm k0 → (mo = false → (∀ r' c', (r' < r ∧ c' < w) ∨ (r' = r ∧ c' < c) → k (16 * r' + c') ≠ 0 ∨ ¬ z < L (16 * r' + c') ∨ ¬ nbr w k m r' c')) → cX12_spread_35 (0, 0, 0, 0) d (iI (p : Nat)) (iI m) (oI mo) (iI (r : Nat)) (iI (c : Nat)) A R Q := by
        intro r hr out n
        induction n with
        | zero =>
          intro c k A mo hc kA fA ka I U U2 D
          have pA : PcM p w z L A := hP.fr fA (by simp) (by simp)
          refine gX12_spread_35 ?_
          unfold fX12_spread_35
          rw [show ((0 : Int32)).toNatClampNeg = 0 from rfl, pA.1, iI_le (by omega) (by omega) (by omega) (by omega)]
          refine ⟨vpk (k := 0) (by omega) (by omega), fun _ => ?_, fun q => absurd (by omega) q⟩
          rw [show iI (r : Nat) + 1 = iI ((r + 1 : Nat)) from iI_add (r : Nat) 1]
          refine out k A mo kA fA ka I U U2 (fun e r' c' h1 h2 => D e r' c' ?_)
          omega
        | succ n ih =>
          intro c k A mo hc kA fA ka I U U2 D
          have pA : PcM p w z L A := hP.fr fA (by simp) (by simp)
          refine M_sp35 hK pA hr (by omega) (by omega) kA (fun g => ?_) (fun g1 g2 g3 => ?_)
          · refine ih (c + 1) k A mo (by omega) kA fA ka I U U2 (fun e r' c' h1 => ?_)
            by_cases cc : r' = r ∧ c' = c
            · rw [cc.1, cc.2]; exact g
            · exact D e r' c' (by omega)
          · have lt := unm_up (k := k) (i := 16 * r + c) (m := m) (by omega) g1 (by omega)
            have := ih (c + 1) (upZ k (16 * r + c) m) _ true (by omega) (kA.up (by omega)) (fA.sA (by simp)) (by unfold upZ; split <;> first | rfl | exact ka) (fun i hi hne => ?_) (fun _ => by omega) (by omega) (fun e => absurd e (by decide))
            · exact this
            · by_cases ci : i = 16 * r + c
              · subst ci
                have hbo : brt L z (16 * r + c) := ⟨hi, g2⟩
                have e0 : mk (16 * r + c) = 0 := by
                  by_cases q : k (16 * r + c) = mk (16 * r + c)
                  · rw [← q]; exact g1
                  · exact (I _ hi q).1
                refine ⟨e0, by unfold upZ; rw [if_pos rfl], ?_⟩
                have nb : ∃ q, q < 256 ∧ k q = m ∧ adj q (16 * r + c) := by
                  unfold nbr at g3
                  rcases g3 with ⟨a1, a2⟩ | ⟨a1, a2⟩ | ⟨a1, a2⟩ | ⟨a1, a2⟩
                  · exact ⟨_, by omega, a2, by unfold adj; omega⟩
                  · exact ⟨_, by omega, a2, by unfold adj; omega⟩
                  · exact ⟨_, by omega, a2, by unfold adj; omega⟩
                  · exact ⟨_, by omega, a2, by unfold adj; omega⟩
                obtain ⟨q, q1, q2, q3⟩ := nb
                have rq : rch L z a q := by
                  by_cases cq : k q = mk q
                  · exact absurd (by rw [← cq]; exact q2) (hnm q q1)
                  · exact (I q q1 cq).2.2
                exact rch_st rq q3 hbo
              · unfold upZ at hne ⊢
                rw [if_neg ci] at hne ⊢
                exact I i hi hne
      have rows : ∀ (n r : Nat) (k : Nat → Int) (A : PS) (mo : Bool), r + n = w → MkM k A → Fr [] [] [36] [] P A → k a = m → (∀ i, i < 256 → k i ≠ mk i → mk i = 0 ∧ k i = m ∧ rch L z a i) → (mo = true → unm k < unm k0) → unm k ≤ unm k0 → (mo = false → ∀ r' c', r' < r → c' < w → k (16 * r' + c') ≠ 0 ∨ ¬ z < L (16 * r' + c') ∨ ¬ nbr w k m r' c') → cX12_spread_21 (0, 0, 0, 0) d (iI (p : Nat)) (iI m) (oI mo) (iI (r : Nat)) A R Q := by
        intro n
        induction n with
        | zero =>
          intro r k A mo hr kA fA ka I U U2 D
          have pA : PcM p w z L A := hP.fr fA (by simp) (by simp)
          refine gX12_spread_21 ?_
          unfold fX12_spread_21
          rw [show ((0 : Int32)).toNatClampNeg = 0 from rfl, pA.1, iI_le (by omega) (by omega) (by omega) (by omega)]
          exact ⟨vpk (k := 0) (by omega) (by omega), fun _ => done k A mo kA fA ka I U (fun e r' c' h1 h2 => D e r' c' (by omega) h2), fun q => absurd (by omega) q⟩
        | succ n ih =>
          intro r k A mo hr kA fA ka I U U2 D
          have pA : PcM p w z L A := hP.fr fA (by simp) (by simp)
          refine gX12_spread_21 ?_
          unfold fX12_spread_21
          rw [show ((0 : Int32)).toNatClampNeg = 0 from rfl, pA.1, iI_le (by omega) (by omega) (by omega) (by omega)]
          refine ⟨vpk (k := 0) (by omega) (by omega), fun q => absurd q (by omega), fun _ => ?_⟩
          refine cells r (by omega) (fun k' A' mo' kA' fA' ka' I' U' U2' D' => ih (r + 1) k' A' mo' (by omega) kA' fA' ka' I' U' U2' D') w 0 k A mo (by omega) kA fA ka I U U2 (fun e r' c' h1 => D e r' c' (by omega) (by omega))
      exact rows w 0 k0 A0 false (by omega) kA0 fA0 ka0 I0 (fun e => absurd e (by decide)) (Nat.le_refl _) (fun _ r' c' h1 => absurd h1 (Nat.not_lt_zero r'))
  rw [iI_in (by omega) (by omega), iI_cl (by omega) (by omega), Int.toNat_natCast]
  refine ⟨by omega, sweep (unm (upZ mk a m) + 1) (upZ mk a m) _ (by omega) (hk.up (by omega)) (Fr.rf.sA (by simp)) (by unfold upZ; rw [if_pos rfl]) (fun i hi hne => ?_)⟩
  unfold upZ at hne ⊢
  by_cases c : i = a
  · rw [if_pos c]; rw [c]; exact ⟨h0, rfl, rch_rf a⟩
  · rw [if_neg c] at hne; exact absurd rfl hne
