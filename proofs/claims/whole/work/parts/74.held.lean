/-! ===== HELD, both sides ===== -/
def lig (l : List SR) (s : Nat) : Int := (nthS l s).2.2.2
def upN (o : Nat → Nat) (k v : Nat) : Nat → Nat := fun i => if i = k then v else o i
def shI (l : List SR) (s : Nat) : Nat → (Nat → Nat) → Nat → Nat
  | 0, o => upN o 0 s
  | k + 1, o => if lig l (o k) < lig l s then shI l s k (upN o (k + 1) (o k)) else upN o (k + 1) s
def ord (l : List SR) : Nat → Nat → Nat
  | 0 => fun _ => 0
  | k + 1 => shI l k k (ord l k)
theorem shI_lt {l : List SR} {s B : Nat} (hs : s < B) : ∀ k o i, (∀ i, i ≠ k → o i < B) → shI l s k o i < B
  | 0, o, i, h => by unfold shI upN; split; exact hs; exact h i (by assumption)
  | k + 1, o, i, h => by
    unfold shI
    split
    · refine shI_lt hs k _ i (fun i hi => ?_)
      unfold upN
      split
      · exact h k (by omega)
      · rename_i c; exact h i c
    · unfold upN; split; exact hs; exact h i (by assumption)
theorem ord_lt (l : List SR) : ∀ k i, ord l k i < k + 1
  | 0, i => by unfold ord; omega
  | k + 1, i => by
    unfold ord
    exact shI_lt (by omega) k _ i (fun i _ => Nat.lt_succ_of_lt (ord_lt l k i))
theorem shI_lo {l : List SR} {s : Nat} : ∀ k o i, k < i → shI l s k o i = o i
  | 0, o, i, h => by unfold shI upN; rw [if_neg (by omega)]
  | k + 1, o, i, h => by
    unfold shI
    split
    · rw [shI_lo k _ i (by omega)]; unfold upN; rw [if_neg (by omega)]
    · unfold upN; rw [if_neg (by omega)]
theorem ord_in (l : List SR) : ∀ k i, i < k → ord l k i < k := fun k i hi => by
  cases k with
  | zero => omega
  | succ k => unfold ord; exact shI_lt (by omega) k _ i (fun i _ => Nat.lt_of_lt_of_le (ord_lt l k i) (by omega))
def pal (l : List SR) (f : Nat → Int) (a b : Nat) : Bool := decide (dsq l a b ≤ 4 * f 2 * f 2)
def mor (l : List SR) (f : Nat → Int) (i k : Nat) : Nat := (f 10).toNat + (f 11).toNat * cnt (fun o => pal l f (ord l l.length i) (ord l l.length o)) k
def cum (l : List SR) (f : Nat → Int) : Nat → Nat := sumN (fun i => mor l f i i)
theorem mor_bd {l : List SR} {f : Nat → Int} (hF : FOK f) (i k : Nat) (hk : k ≤ 32) : mor l f i k ≤ 3267 ∧ 1 ≤ mor l f i k := by
  have h1 := hF.2.2.2.2.2.2.2.2.2.2
  have h2 := Nat.mul_le_mul (show (f 11).toNat ≤ 99 by omega) (Nat.le_trans (cnt_le (fun o => pal l f (ord l l.length i) (ord l l.length o)) k) hk)
  unfold mor; omega
theorem cum_bd {l : List SR} {f : Nat → Int} (hF : FOK f) (k : Nat) (hk : k ≤ 32) : cum l f k ≤ 104544 := by
  have := sumN_le (g := fun i => mor l f i i) (B := 3267) k (fun i hi => (mor_bd hF i i (by omega)).1)
  have : k * 3267 ≤ 32 * 3267 := Nat.mul_le_mul_right _ hk
  unfold cum; omega
theorem cum_s (l : List SR) (f : Nat → Int) (k : Nat) : cum l f (k + 1) = cum l f k + mor l f k k := rfl
theorem cum_mono {l : List SR} {f : Nat → Int} (hF : FOK f) {a : Nat} : ∀ b, a ≤ b → b ≤ 32 → cum l f a ≤ cum l f b
  | 0, h, _ => by rw [show a = 0 by omega]; exact Nat.le_refl _
  | b + 1, h, hb => by
    by_cases c : a = b + 1
    · rw [c]; exact Nat.le_refl _
    · have := cum_mono (l := l) hF (a := a) b (by omega) (by omega)
      rw [cum_s]; omega
/-- the most that are held -/
def hld (l : List SR) (f : Nat → Int) (B : Nat) : Nat → Nat
  | 0 => 0
  | n + 1 => if cum l f (n + 1) ≤ B then n + 1 else hld l f B n
theorem hld_le (l : List SR) (f : Nat → Int) (B : Nat) : ∀ n, hld l f B n ≤ n
  | 0 => Nat.le_refl _
  | n + 1 => by unfold hld; split; exact Nat.le_refl _; exact Nat.le_succ_of_le (hld_le l f B n)
theorem hld_at {l : List SR} {f : Nat → Int} (hF : FOK f) {B n : Nat} (h : cum l f n ≤ B) (h' : B < cum l f (n + 1)) : ∀ m, n ≤ m → m ≤ 32 → hld l f B m = n
  | 0, hm, _ => by rw [show n = 0 by omega]; rfl
  | m + 1, hm, hb => by
    unfold hld
    by_cases c : n = m + 1
    · rw [if_pos (by rw [← c]; exact h), c]
    · rw [if_neg (by have := cum_mono (l := l) hF (a := n + 1) (m + 1) (by omega) hb; omega)]
      exact hld_at hF h h' m (by omega) (by omega)
def heldS (l : List SR) (f : Nat → Int) (a : Int) : Int := if 0 ≤ a ∧ a ≤ 99999 then (hld l f a.toNat l.length : Nat) else -1
theorem M_h25 {d s : Nat} {x : Int32} {l : List SR} {f : Nat → Int} {P0 : PS} {R : List PS} {Q : Option AV → List PS → Prop} (hs : s < l.length) (hB0 : BoM l f P0) (h : ∀ P, Fr [] [] [68] [] P0 P → (∀ i, i ≤ s → gA P 0 68 i = iI (ord l (s + 1) i : Nat)) → cX12_held_15 (0, 0, 0, 0) d x (iI ((s + 1 : Nat))) P R Q) : ∀ (k : Nat) (o : Nat → Nat) (P : PS), k ≤ s → Fr [] [] [68] [] P0 P → shI l s k o = ord l (s + 1) → (∀ i, i < k → o i < l.length) → (∀ i, i ≤ s → i ≠ k → gA P 0 68 i = iI (o i : Nat)) → cX12_held_25 (0, 0, 0, 0) d x (iI (s : Nat)) (iI (k : Nat)) P R Q := by
  have hl := hB0.1.2.1
  intro k
  induction k with
  | zero =>
    intro o P hk fP ho hlt hA
    refine gX12_held_25 ?_
    unfold fX12_held_25
    simp (disch := omega) only [iI_lit, iI_le, iI_in, iI_cl, iI_add, Int.toNat_natCast]
    refine ⟨fun _ => ⟨by omega, ?_⟩, fun c => absurd (by omega) c⟩
    refine h _ (fP.sA (by simp)) (fun i hi => ?_)
    rw [← ho, gA_sA, if_pos rfl, if_pos rfl]
    unfold shI upN
    by_cases c : i = 0
    · rw [if_pos c, if_pos c]
    · rw [if_neg c, if_neg c]; exact hA i hi c
  | succ k ih =>
    intro o P hk fP ho hlt hA
    have hB : BoM l f P := hB0.fr fP (by simp) (by simp) (by simp) (by simp) (by simp)
    have e1 := hA k (by omega) (by omega)
    have e2 := hB.1.2.2.2 (o k) (hlt k (by omega))
    have e3 := hB.1.2.2.2 s hs
    have b2 := hB.st (hlt k (by omega))
    have b3 := hB.st hs
    have hok := hlt k (by omega)
    refine gX12_held_25 ?_
    unfold fX12_held_25
    rw [show (1 : Int32) = iI 1 from rfl, iI_sub, show ((k + 1 : Nat) : Int) - 1 = (k : Nat) by omega]
    simp (disch := omega) only [iI_lit, iI_le, iI_in, iI_cl, iI_add, iI_neg, Int.toNat_natCast]
    rw [e1]
    simp (disch := omega) only [iI_le, iI_in, iI_cl, Int.toNat_natCast]
    rw [e2.2.2, e3.2.2]
    simp (disch := omega) only [iI_le]
    unfold shI at ho
    refine ⟨fun c => absurd c (by omega), fun _ => ⟨by omega, by omega, by omega, fun c => ⟨by omega, ?_⟩, fun c => ⟨by omega, by omega, ?_⟩⟩⟩
    · rw [if_neg (by unfold lig; omega)] at ho
      refine h _ (fP.sA (by simp)) (fun i hi => ?_)
      rw [← ho, gA_sA, if_pos rfl, if_pos rfl]
      unfold upN
      by_cases c : i = k + 1
      · rw [if_pos c, if_pos c]
      · rw [if_neg c, if_neg c]; exact hA i hi c
    · rw [if_pos (by unfold lig; omega)] at ho
      rw [show ((k + 1 : Nat) : Int) + -1 = (k : Nat) by omega]
      refine ih _ _ (by omega) (fP.sA (by simp)) ho (fun i hi => ?_) (fun i hi hne => ?_)
      · unfold upN; rw [if_neg (by omega)]; exact hlt i (by omega)
      · rw [gA_sA, if_pos rfl, if_pos rfl]
        unfold upN
        by_cases c : i = k + 1
        · rw [if_pos c, if_pos c]
        · rw [if_neg c, if_neg c]; exact hA i hi c
theorem M_h15 {d : Nat} {x : Int32} {l : List SR} {f : Nat → Int} {P0 : PS} {R : List PS} {Q : Option AV → List PS → Prop} (hB0 : BoM l f P0) (h : ∀ P, Fr [] [] [68] [] P0 P → (∀ i, i < l.length → gA P 0 68 i = iI (ord l l.length i : Nat)) → cX12_held_88 (0, 0, 0, 0) d x 0 0 P R Q) : ∀ (m s : Nat) (P : PS), s + m = l.length → Fr [] [] [68] [] P0 P → (∀ i, i < s → gA P 0 68 i = iI (ord l s i : Nat)) → cX12_held_15 (0, 0, 0, 0) d x (iI (s : Nat)) P R Q := by
  have hl := hB0.1.2.1
  intro m
  induction m with
  | zero =>
    intro s P hs fP hA
    have es : s = l.length := by omega
    subst es
    have hB : BoM l f P := hB0.fr fP (by simp) (by simp) (by simp) (by simp) (by simp)
    refine gX12_held_15 ?_
    unfold fX12_held_15
    rw [hB.1.1]
    simp (disch := omega) only [iI_le]
    exact ⟨fun _ => h P fP hA, fun c => absurd (by omega) c⟩
  | succ m ih =>
    intro s P hs fP hA
    have hB : BoM l f P := hB0.fr fP (by simp) (by simp) (by simp) (by simp) (by simp)
    refine gX12_held_15 ?_
    unfold fX12_held_15
    rw [hB.1.1]
    simp (disch := omega) only [iI_le]
    refine ⟨fun c => absurd c (by omega), fun _ => ?_⟩
    refine M_h25 (by omega) hB0 (fun P' f' a' => ih (s + 1) P' (by omega) f' (fun i hi => a' i (by omega))) s (ord l s) P (by omega) fP rfl (fun i hi => ?_) (fun i hi hne => hA i (by omega))
    exact Nat.lt_trans (ord_in l s i hi) (by omega)
theorem M_h109 {d n B : Nat} {l : List SR} {f : Nat → Int} {P : PS} {R : List PS} {Q : Option AV → List PS → Prop} (hn : n < l.length) (hBb : B ≤ 99999) (hB : BoM l f P) (hF : FOK f) (hA : ∀ i, i < l.length → gA P 0 68 i = iI (ord l l.length i : Nat)) (hy : cum l f (n + 1) ≤ B → cX12_held_88 (0, 0, 0, 0) d (iI (B : Nat)) (iI (cum l f (n + 1) : Nat)) (iI ((n + 1 : Nat))) P R Q) (hn' : ¬ cum l f (n + 1) ≤ B → Q (some (vI (iI (n : Nat)))) (P :: R)) : ∀ m k : Nat, k + m = n → cX12_held_109 (0, 0, 0, 0) d (iI (B : Nat)) (iI ((cum l f n + mor l f n k : Nat))) (iI (n : Nat)) (iI (k : Nat)) P R Q := by
  have hl := hB.1.2.1
  intro m
  induction m with
  | zero =>
    intro k hk
    have ek : k = n := by omega
    subst ek
    have b1 := cum_bd (l := l) hF (k + 1) (by omega)
    refine gX12_held_109 ?_
    unfold fX12_held_109
    rw [← cum_s]
    simp (disch := omega) only [iI_lit, iI_le, iI_add]
    exact ⟨fun _ => ⟨fun c => hy (by omega), fun c => hn' (by omega)⟩, fun c => absurd (by omega) c⟩
  | succ m ih =>
    intro k hk
    have b1 := cum_bd (l := l) hF n (by omega)
    have b2 := mor_bd (l := l) hF n k (by omega)
    have o1 := ord_in l l.length n hn
    have o2 := ord_in l l.length k (by omega)
    have s1 := hB.1.2.2.2 _ o1
    have s2 := hB.1.2.2.2 _ o2
    have t1 := hB.st o1
    have t2 := hB.st o2
    have h2 := hF.2.2.1
    have h11 := hF.2.2.2.2.2.2.2.2.2.2.2
    have hd := dsq_bd hB.1.2.2.1 o1 o2
    have q4 : 4 * f 2 * f 2 ≤ 4 * 999 * 999 := Int.mul_le_mul (by omega) h2.2 (by omega) (by omega)
    have q0 : 0 ≤ 4 * f 2 * f 2 := Int.mul_nonneg (by omega) (by omega)
    refine gX12_held_109 ?_
    unfold fX12_held_109
    simp (disch := omega) only [iI_le, iI_in, iI_cl, Int.toNat_natCast]
    rw [hA n hn, hA k (by omega)]
    simp (disch := omega) only [iI_in, iI_cl, Int.toNat_natCast]
    rw [s1.1, s1.2.1, s2.1, s2.2.1, show ((2 : Int32)).toNatClampNeg = 2 from rfl, hB.2 2 (by omega), show ((11 : Int32)).toNatClampNeg = 11 from rfl, hB.2 11 (by omega)]
    simp only [show (0 : Int32) = iI 0 from rfl, show (1 : Int32) = iI 1 from rfl, show (4 : Int32) = iI 4 from rfl, iI_sub, iI_mul, iI_add]
    unfold dsq at hd
    simp (disch := omega) only [iI_lt]
    have e : mor l f n (k + 1) = mor l f n k + (if pal l f (ord l l.length n) (ord l l.length k) = true then (f 11).toNat else 0) := by
      show (f 10).toNat + (f 11).toNat * (cnt (fun o => pal l f (ord l l.length n) (ord l l.length o)) k + (if pal l f (ord l l.length n) (ord l l.length k) = true then 1 else 0)) = _
      rw [Nat.mul_add]
      unfold mor
      split <;> omega
    have ih' := ih (k + 1) (by omega)
    rw [e] at ih'
    refine ⟨fun c => absurd c (by omega), fun _ => ⟨by omega, by omega, by omega, by omega, by omega, by omega, by omega, by omega, vpk (k := 2) (by omega) (by omega), vpk (k := 2) (by omega) (by omega), fun c => ?_, fun c => ⟨vpk (k := 11) (by omega) (by omega), ?_⟩⟩⟩
    · rw [show pal l f (ord l l.length n) (ord l l.length k) = false from decide_eq_false (by unfold dsq; omega)] at ih'
      exact ih'
    · rw [show pal l f (ord l l.length n) (ord l l.length k) = true from decide_eq_true (by unfold dsq; omega)] at ih'
      simp only [if_true] at ih'
      rw [show ((cum l f n + (mor l f n k + (f 11).toNat) : Nat) : Int) = ((cum l f n + mor l f n k : Nat) : Int) + f 11 by omega] at ih'
      exact ih'
theorem M_held {d : Nat} {a : Int} {l : List SR} {f : Nat → Int} {P : PS} {R : List PS} {Q : Option AV → List PS → Prop} (ha : -2147483648 ≤ a ∧ a < 2147483648) (hB : BoM l f P) (hF : FOK f) (h : ∀ P', Fr [] [] [68] [] P P' → Q (some (vI (iI (heldS l f a)))) (P' :: R)) : Tri 262 d [vR 0 0 0, vI (iI a)] (P :: R) Q := by
  have hl := hB.1.2.1
  refine enX12_held ?_
  unfold fX12_held_0
  unfold heldS at h
  simp (disch := omega) only [iI_lit, iI_lt, iI_le]
  refine ⟨fun c => ?_, fun c => ⟨fun c1 => ?_, fun c1 => ?_⟩⟩
  · have := h P Fr.rf; rw [if_neg (by omega)] at this; exact this
  · obtain ⟨B, rfl⟩ : ∃ B : Nat, a = (B : Nat) := ⟨a.toNat, by omega⟩
    rw [if_pos (by omega), Int.toNat_natCast] at h
    refine M_h15 hB (fun P' f' a' => ?_) l.length 0 P (by omega) Fr.rf (fun i hi => absurd hi (Nat.not_lt_zero i))
    have hB' : BoM l f P' := hB.fr f' (by simp) (by simp) (by simp) (by simp) (by simp)
    have key : ∀ m n : Nat, n + m = l.length → cum l f n ≤ B → cX12_held_88 (0, 0, 0, 0) d (iI (B : Nat)) (iI (cum l f n : Nat)) (iI (n : Nat)) P' R Q := by
      intro m
      induction m with
      | zero =>
        intro n hn hc
        have en : n = l.length := by omega
        refine gX12_held_88 ?_
        unfold fX12_held_88
        rw [hB'.1.1]
        simp (disch := omega) only [iI_le]
        refine ⟨fun _ => ?_, fun c => absurd (by omega) c⟩
        have e : hld l f B l.length = l.length := by
          cases hL : l.length with
          | zero => rfl
          | succ q => unfold hld; rw [if_pos (by rw [← hL, ← en]; exact hc)]
        have := h P' f'
        rw [e] at this; exact this
      | succ m ih =>
        intro n hn hc
        refine gX12_held_88 ?_
        unfold fX12_held_88
        rw [hB'.1.1, show ((10 : Int32)).toNatClampNeg = 10 from rfl, hB'.2 10 (by omega), iI_add]
        simp (disch := omega) only [iI_le]
        refine ⟨fun c => absurd c (by omega), fun _ => ⟨vpk (k := 10) (by omega) (by omega), ?_⟩⟩
        have := M_h109 (n := n) (d := d) (Q := Q) (R := R) (by omega) (by omega) hB' hF a' (fun q => ih (n + 1) (by omega) q) (fun q => by
          have := h P' f'
          rw [hld_at hF hc (by omega) l.length (by omega) (by omega)] at this; exact this) n 0 (by omega)
        have e0 : ((cum l f n + mor l f n 0 : Nat) : Int) = (cum l f n : Nat) + f 10 := by
          have h10 := hF.2.2.2.2.2.2.2.2.2.2.1
          have : mor l f n 0 = (f 10).toNat := rfl
          rw [this]; omega
        rw [e0] at this
        exact this
    exact key l.length 0 (by omega) (Nat.zero_le _)
  · have := h P Fr.rf; rw [if_neg (by omega)] at this; exact this
