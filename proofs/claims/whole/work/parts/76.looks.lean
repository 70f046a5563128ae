/-! ===== LOOKS: what is seen, the Model ===== -/
def seeS (l : List SR) (f : Nat → Int) (x y : Int) (s : Nat) : Bool := decide ((x - (nthS l s).2.1) * (x - (nthS l s).2.1) + (y - (nthS l s).2.2.1) * (y - (nthS l s).2.2.1) ≤ f 2 * f 2)
def snW (l : List SR) (f : Nat → Int) (x y : Int) (T : Nat → Bool) (n : Nat) : Nat := cnt (fun s => T s && seeS l f x y s) n
theorem see_bd {l : List SR} {f : Nat → Int} (hF : FOK f) {x y : Int} {s : Nat} (hx : 0 ≤ x ∧ x ≤ 999) (hy : 0 ≤ y ∧ y ≤ 999) (h1 : 0 ≤ (nthS l s).2.1 ∧ (nthS l s).2.1 ≤ 999) (h2 : 0 ≤ (nthS l s).2.2.1 ∧ (nthS l s).2.2.1 ≤ 999) : (0 ≤ (x - (nthS l s).2.1) * (x - (nthS l s).2.1) + (y - (nthS l s).2.2.1) * (y - (nthS l s).2.2.1) ∧ (x - (nthS l s).2.1) * (x - (nthS l s).2.1) + (y - (nthS l s).2.2.1) * (y - (nthS l s).2.2.1) ≤ 1996002) ∧ 0 ≤ f 2 * f 2 ∧ f 2 * f 2 ≤ 998001 := by
  have b1 := sq_bd (a := x - (nthS l s).2.1) (B := 999) (by omega) (by omega)
  have b2 := sq_bd (a := y - (nthS l s).2.2.1) (B := 999) (by omega) (by omega)
  have h := hF.2.2.1
  have b3 := sq_bd (a := f 2) (B := 999) (by omega) (by omega)
  exact ⟨⟨by omega, by omega⟩, by omega, by omega⟩
theorem M_sees {d s : Nat} {x y : Int} {l : List SR} {f : Nat → Int} {P : PS} {R : List PS} {Q : Option AV → List PS → Prop} (hx : 0 ≤ x ∧ x ≤ 999) (hy : 0 ≤ y ∧ y ≤ 999) (hs : s < l.length) (hB : BoM l f P) (hF : FOK f) (h : Q (some (vI (oI (seeS l f x y s)))) (P :: R)) : Tri 256 d [vR 0 0 0, vI (iI x), vI (iI y), vI (iI (s : Nat))] (P :: R) Q := by
  have hl := hB.1.2.1
  have e := hB.1.2.2.2 s hs
  have t := hB.st hs
  have b := see_bd (l := l) (s := s) hF hx hy t.1 t.2.1
  refine enX12_sees ?_
  unfold fX12_sees_0
  simp (disch := omega) only [iI_in, iI_cl, Int.toNat_natCast]
  rw [e.1, e.2.1, show ((2 : Int32)).toNatClampNeg = 2 from rfl, hB.2 2 (by omega), iI_mul, iI_sub, iI_mul, iI_sub, iI_mul, iI_add]
  simp (disch := omega) only [iI_lt]
  refine ⟨by omega, by omega, by omega, by omega, vpk (k := 2) (by omega) (by omega), vpk (k := 2) (by omega) (by omega), fun c => ⟨Or.inl trivial, ?_⟩, fun c => ⟨Or.inr trivial, ?_⟩⟩
  · rw [show seeS l f x y s = false from decide_eq_false (by omega)] at h; exact h
  · rw [show seeS l f x y s = true from decide_eq_true (by omega)] at h; exact h
theorem M_seenFrom {d : Nat} {x y : Int} {w : Int32} {l : List SR} {f : Nat → Int} {P : PS} {R : List PS} {Q : Option AV → List PS → Prop} (hx : 0 ≤ x ∧ x ≤ 999) (hy : 0 ≤ y ∧ y ≤ 999) (hB : BoM l f P) (hF : FOK f) (h : Q (some (vI (iI (snW l f x y (bz w) l.length : Nat)))) (P :: R)) : Tri 257 (d + 1) [vR 0 0 0, vI (iI x), vI (iI y), vI w] (P :: R) Q := by
  have hl := hB.1.2.1
  refine enX12_seenFrom ?_
  unfold fX12_seenFrom_0
  have key : ∀ m s : Nat, s + m = l.length → cX12_seenFrom_6 (0, 0, 0, 0) d (iI x) (iI y) w (iI (snW l f x y (bz w) s : Nat)) (iI (s : Nat)) P R Q := by
    intro m
    induction m with
    | zero =>
      intro s hs
      have es : s = l.length := by omega
      subst es
      refine gX12_seenFrom_6 ?_
      unfold fX12_seenFrom_6
      rw [hB.1.1]
      simp (disch := omega) only [iI_le]
      exact ⟨fun _ => h, fun c => absurd (by omega) c⟩
    | succ m ih =>
      intro s hs
      refine gX12_seenFrom_6 ?_
      unfold fX12_seenFrom_6
      rw [hB.1.1, bz_s w (by omega)]
      have ih' := ih (s + 1) (by omega)
      have e : snW l f x y (bz w) (s + 1) = snW l f x y (bz w) s + (if (bz w s && seeS l f x y s) = true then 1 else 0) := rfl
      rw [e] at ih'
      simp (disch := omega) only [iI_le]
      simp only [show (0 : Int32) = iI 0 from rfl, show (1 : Int32) = iI 1 from rfl, iI_add]
      rw [show iI 1 = oI true from rfl, oI_inj]
      refine ⟨fun c => absurd c (by omega), fun _ => ⟨fun c => ?_, fun c => M_sees hx hy (by omega) hB hF ?_⟩⟩
      · rw [show bz w s = false by simpa using c] at ih'; simpa using ih'
      · dsimp only [hx1, rI]
        rw [show iI 0 = (0 : Int32) from rfl, oI_z]
        refine ⟨fun c1 => ?_, fun c1 => ?_⟩
        · rw [c1] at ih'; simpa using ih'
        · rw [c, show seeS l f x y s = true by simpa using c1] at ih'; simpa using ih'
  exact key l.length 0 (by omega)
def rep1 {α : Type} (F : Nat → α → α) : Nat → α → α
  | 0, a => a
  | n + 1, a => F n (rep1 F n a)
def stp6 (f : Nat → Int) : Nat := (f 6).toNat
def nLk (f : Nat → Int) : Nat := 999 / stp6 f + 1
theorem nLk_ok {f : Nat → Int} (hF : FOK f) : nLk f ≤ 10 ∧ 1 ≤ nLk f ∧ (f 6 = (stp6 f : Nat)) ∧ 100 ≤ stp6 f ∧ stp6 f ≤ 999 ∧ ∀ i : Nat, i ≤ 1000 → (i < nLk f ↔ i * stp6 f ≤ 999) := by
  have h := hF.2.2.2.2.2.2.1
  have h1 : 100 ≤ stp6 f ∧ stp6 f ≤ 999 := by unfold stp6; omega
  have h2 : f 6 = (stp6 f : Nat) := by unfold stp6; omega
  have h3 : 999 / stp6 f ≤ 9 := by
    have : 999 / stp6 f ≤ 999 / 100 := Nat.div_le_div_left h1.1 (by omega)
    omega
  refine ⟨by unfold nLk; omega, Nat.succ_le_succ (Nat.zero_le _), h2, h1.1, h1.2, fun i hi => ?_⟩
  unfold nLk
  rw [Nat.lt_succ_iff, Nat.le_div_iff_mul_le (by omega)]
abbrev LA : Type := Nat × Nat × Int
def lkX (f : Nat → Int) (i : Nat) : Int := ((i * stp6 f : Nat) : Int)
def hol (l : List SR) (f : Nat → Int) (i j : Nat) : Bool := decide ((cnt (seeS l f (lkX f i) (lkX f j)) l.length : Nat) < f 7)
def lkS (l : List SR) (f : Nat → Int) (i j : Nat) (a : LA) : LA := (a.1 + 1, (if hol l f i j = true then a.2.1 + 1 else a.2.1), if hol l f i j = true then (if a.2.2 < 0 then 1000 * lkX f i + lkX f j else a.2.2) else a.2.2)
def lkR (l : List SR) (f : Nat → Int) (i : Nat) : Nat → LA → LA := rep1 (lkS l f i)
def lkA (l : List SR) (f : Nat → Int) (i : Nat) : LA := rep1 (fun i a => lkR l f i (nLk f) a) i (0, 0, -1)
theorem lkX_bd {f : Nat → Int} (hF : FOK f) {i : Nat} (hi : i < nLk f) : 0 ≤ lkX f i ∧ lkX f i ≤ 999 := by
  have := nLk_ok hF
  have := (this.2.2.2.2.2 i (by omega)).mp hi
  unfold lkX; omega
theorem lkS_bd {l : List SR} {f : Nat → Int} (hF : FOK f) {i j : Nat} (hi : i < nLk f) (hj : j < nLk f) {a : LA} (h : -1 ≤ a.2.2 ∧ a.2.2 ≤ 999999) : -1 ≤ (lkS l f i j a).2.2 ∧ (lkS l f i j a).2.2 ≤ 999999 := by
  have h1 := lkX_bd hF hi
  have h2 := lkX_bd hF hj
  unfold lkS
  dsimp only
  split
  · split <;> omega
  · exact h
theorem lkR_bd {l : List SR} {f : Nat → Int} (hF : FOK f) {i : Nat} (hi : i < nLk f) {a : LA} (h : -1 ≤ a.2.2 ∧ a.2.2 ≤ 999999) : ∀ m, m ≤ nLk f → -1 ≤ (lkR l f i m a).2.2 ∧ (lkR l f i m a).2.2 ≤ 999999
  | 0, _ => h
  | m + 1, hm => lkS_bd hF hi (by omega) (lkR_bd hF hi h m (by omega))
theorem lkA_bd (l : List SR) {f : Nat → Int} (hF : FOK f) : ∀ m, m ≤ nLk f → -1 ≤ (lkA l f m).2.2 ∧ (lkA l f m).2.2 ≤ 999999
  | 0, _ => ⟨show (-1 : Int) ≤ -1 by decide, show (-1 : Int) ≤ 999999 by decide⟩
  | m + 1, hm => lkR_bd hF (by omega) (lkA_bd l hF m (by omega)) (nLk f) (Nat.le_refl _)
def looksS (l : List SR) (f : Nat → Int) (x : Int32) : Int := if x = 0 then (lkA l f (nLk f)).1 else if x = 1 then (lkA l f (nLk f)).2.1 else if x = 2 then (lkA l f (nLk f)).2.2 else -1
theorem snW_all (l : List SR) (f : Nat → Int) (x y : Int) (n : Nat) (hn : n ≤ 32) : snW l f x y (bz (-1)) n = cnt (seeS l f x y) n := cnt_congr n (fun i hi => by rw [bz_m1 i (by omega)]; rfl)
theorem M_looks {d : Nat} {a : Int} {l : List SR} {f : Nat → Int} {P : PS} {R : List PS} {Q : Option AV → List PS → Prop} (ha : -2147483648 ≤ a ∧ a < 2147483648) (hB : BoM l f P) (hF : FOK f) (h : Q (some (vI (iI (looksS l f (iI a))))) (P :: R)) : Tri 258 (d + 2) [vR 0 0 0, vI (iI a)] (P :: R) Q := by
  have hl := hB.1.2.1
  have hN := nLk_ok hF
  have h7 := hF.2.2.2.2.2.2.2.1
  refine enX12_looks ?_
  unfold fX12_looks_0
  unfold looksS at h
  simp (disch := omega) only [iI_lit, iI_eq] at h
  have inner : ∀ i, i < nLk f → cX12_looks_21 (0, 0, 0, 0) (d + 1) (iI a) (iI (lkA l f (i + 1)).1) (iI (lkA l f (i + 1)).2.1) (iI (lkA l f (i + 1)).2.2) (iI (lkX f (i + 1))) P R Q → ∀ m j : Nat, j + m = nLk f → cX12_looks_32 (0, 0, 0, 0) (d + 1) (iI a) (iI (lkR l f i j (lkA l f i)).1) (iI (lkR l f i j (lkA l f i)).2.1) (iI (lkR l f i j (lkA l f i)).2.2) (iI (lkX f i)) (iI (lkX f j)) P R Q := by
    intro i hi out m
    have e6 : ∀ k, lkX f k + f 6 = lkX f (k + 1) := fun k => by unfold lkX; rw [hN.2.2.1, Nat.succ_mul]; omega
    induction m with
    | zero =>
      intro j hj
      have ej : j = nLk f := by omega
      have hb : 999 < lkX f j ∧ lkX f j ≤ 9990 := by
        have := (hN.2.2.2.2.2 j (by omega))
        have : ¬ j * stp6 f ≤ 999 := fun q => by have := this.mpr q; omega
        have : j * stp6 f ≤ 10 * 999 := Nat.mul_le_mul (by omega) (by omega)
        unfold lkX; omega
      refine gX12_looks_32 ?_
      unfold fX12_looks_32
      rw [show ((6 : Int32)).toNatClampNeg = 6 from rfl, hB.2 6 (by omega), iI_add, e6]
      simp (disch := omega) only [iI_lit, iI_lt]
      refine ⟨fun _ => ⟨vpk (k := 6) (by omega) (by omega), ?_⟩, fun c => absurd (by omega) c⟩
      rw [ej]; exact out
    | succ m ih =>
      intro j hj
      have hjx := lkX_bd hF (show j < nLk f by omega)
      have hix := lkX_bd hF hi
      have bd := lkR_bd (l := l) hF hi (lkA_bd l hF i (by omega)) j (by omega)
      have ih' := ih (j + 1) (by omega)
      have e : lkR l f i (j + 1) (lkA l f i) = lkS l f i j (lkR l f i j (lkA l f i)) := rfl
      rw [e] at ih'
      generalize lkR l f i j (lkA l f i) = A at *
      refine gX12_looks_32 ?_
      unfold fX12_looks_32
      simp (disch := omega) only [show (999 : Int32) = iI 999 from rfl, iI_lt]
      refine ⟨fun c => absurd c (by omega), fun _ => M_seenFrom hix hjx hB hF ?_⟩
      dsimp only [hx1, rI]
      rw [snW_all l f _ _ _ hl, show ((7 : Int32)).toNatClampNeg = 7 from rfl, show ((6 : Int32)).toNatClampNeg = 6 from rfl, hB.2 7 (by omega), hB.2 6 (by omega), iI_add, e6]
      have hc := cnt_le (seeS l f (lkX f i) (lkX f j)) l.length
      simp only [show (0 : Int32) = iI 0 from rfl, show (1 : Int32) = iI 1 from rfl, show (1000 : Int32) = iI 1000 from rfl, iI_add, iI_mul]
      simp (disch := omega) only [iI_lt, iI_le]
      unfold lkS at ih'
      dsimp only at ih'
      refine ⟨vpk (k := 7) (by omega) (by omega), fun c => ?_, fun c => ⟨vpk (k := 6) (by omega) (by omega), ?_⟩⟩
      · rw [show hol l f i j = true from decide_eq_true c] at ih'
        simp only [if_true] at ih'
        refine ⟨fun c1 => ⟨vpk (k := 6) (by omega) (by omega), ?_⟩, fun c1 => ⟨vpk (k := 6) (by omega) (by omega), ?_⟩⟩
        · rw [if_neg (by omega)] at ih'; exact ih'
        · rw [if_pos (by omega)] at ih'; exact ih'
      · rw [show hol l f i j = false from decide_eq_false c] at ih'
        exact ih'
  have outer : ∀ m i : Nat, i + m = nLk f → 0 ≤ a → a ≤ 2 → cX12_looks_21 (0, 0, 0, 0) (d + 1) (iI a) (iI (lkA l f i).1) (iI (lkA l f i).2.1) (iI (lkA l f i).2.2) (iI (lkX f i)) P R Q := by
    intro m
    induction m with
    | zero =>
      intro i hi a0 a2
      have ei : i = nLk f := by omega
      have hb : 999 < lkX f i ∧ lkX f i ≤ 9990 := by
        have := (hN.2.2.2.2.2 i (by omega))
        have : ¬ i * stp6 f ≤ 999 := fun q => by have := this.mpr q; omega
        have : i * stp6 f ≤ 10 * 999 := Nat.mul_le_mul (by omega) (by omega)
        unfold lkX; omega
      refine gX12_looks_21 ?_
      unfold fX12_looks_21
      simp (disch := omega) only [iI_lit, iI_lt, iI_eq]
      subst ei
      refine ⟨fun _ => ⟨fun c => ⟨fun c1 => ?_, fun c1 => ?_⟩, fun c => ?_⟩, fun c => absurd (by omega) c⟩
      · rw [if_neg c, if_neg c1, if_pos (by omega)] at h; exact h
      · rw [if_neg c, if_pos c1] at h; exact h
      · rw [if_pos c] at h; exact h
    | succ m ih =>
      intro i hi a0 a2
      have hix := lkX_bd hF (show i < nLk f by omega)
      refine gX12_looks_21 ?_
      unfold fX12_looks_21
      simp (disch := omega) only [show (999 : Int32) = iI 999 from rfl, iI_lt]
      refine ⟨fun c => absurd c (by omega), fun _ => ?_⟩
      have := inner i (by omega) (ih (i + 1) (by omega) a0 a2) (nLk f) 0 (by omega)
      rw [show lkX f 0 = 0 by unfold lkX; simp] at this
      exact this
  simp (disch := omega) only [iI_lit, iI_lt, iI_le]
  refine ⟨fun c => ?_, fun c => ⟨fun c1 => ?_, fun c1 => ?_⟩⟩
  · rw [if_neg (by omega), if_neg (by omega), if_neg (by omega)] at h; exact h
  · have := outer (nLk f) 0 (by omega) (by omega) (by omega)
    rw [show lkX f 0 = 0 by unfold lkX; simp] at this
    exact this
  · rw [if_neg (by omega), if_neg (by omega), if_neg (by omega)] at h; exact h
