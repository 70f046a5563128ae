/-! ===== counting, frames ===== -/
def cnt (p : Nat → Bool) : Nat → Nat
  | 0 => 0
  | n + 1 => cnt p n + (if p n = true then 1 else 0)
theorem cnt_le (p : Nat → Bool) : ∀ n, cnt p n ≤ n
  | 0 => Nat.le_refl 0
  | n + 1 => by have := cnt_le p n; unfold cnt; split <;> omega
theorem cnt_congr {p q : Nat → Bool} : ∀ n, (∀ i, i < n → p i = q i) → cnt p n = cnt q n
  | 0, _ => rfl
  | n + 1, h => by unfold cnt; rw [cnt_congr n (fun i hi => h i (by omega)), h n (by omega)]
theorem cnt_upd {p q : Nat → Bool} {k : Nat} (hp : p k = false) (hq : q k = true) (h : ∀ i, i ≠ k → q i = p i) : ∀ n, k < n → cnt q n = cnt p n + 1
  | 0, hk => absurd hk (Nat.not_lt_zero k)
  | n + 1, hk => by
    unfold cnt
    by_cases c : k = n
    · subst c
      rw [cnt_congr k (fun i hi => h i (by omega)), hp, hq]; simp
    · rw [cnt_upd hp hq h n (by omega), h n (by omega)]; omega
theorem cnt_zero {p : Nat → Bool} (n : Nat) (h : ∀ i, i < n → p i = false) : cnt p n = 0 := by
  rw [cnt_congr (q := fun _ => false) n h]
  induction n with
  | zero => rfl
  | succ n ih => unfold cnt; rw [ih (fun i hi => h i (by omega))]; simp
theorem vpk {k n : Nat} (h : k < n) (h' : k < 2147483648) : vp_in (iI (k : Nat)) n := by rw [iI_in (by omega) (by omega)]; omega
theorem oI_i (p : Bool) : oI p = iI (if p then 1 else 0) := by cases p <;> rfl
theorem oI_01 (p : Bool) : oI p = 0 ∨ oI p = 1 := by cases p; exact Or.inl rfl; exact Or.inr rfl
theorem oI_inj {p q : Bool} : oI p = oI q ↔ p = q := by cases p <;> cases q <;> decide
theorem oI_dec {p : Prop} [Decidable p] : oI (decide p) = 0 ↔ ¬ p := by rw [oI_z, decide_eq_false_iff_not]
/-- of a pool only the object j has changed, and of that one only these slots: ints, longs, int arrays, long arrays -/
def FrO (j : Nat) (is ls as bs : List Nat) (P P' : PS) : Prop := FrJ j P P' ∧ (∀ a, a ∉ is → gI P' j a = gI P j a) ∧ (∀ a, a ∉ ls → gL P' j a = gL P j a) ∧ (∀ a i, a ∉ as → gA P' j a i = gA P j a i) ∧ (∀ a i, a ∉ bs → gB P' j a i = gB P j a i) ∧ (∀ a, gO P' j a = gO P j a) ∧ (∀ a i, gR P' j a i = gR P j a i)
theorem FrO.rf {j : Nat} {is ls as bs : List Nat} {P : PS} : FrO j is ls as bs P P := ⟨FrJ.rf, fun _ _ => rfl, fun _ _ => rfl, fun _ _ _ => rfl, fun _ _ _ => rfl, fun _ => rfl, fun _ _ => rfl⟩
theorem FrO.tr {j : Nat} {is ls as bs : List Nat} {P P' P'' : PS} (h : FrO j is ls as bs P P') (h' : FrO j is ls as bs P' P'') : FrO j is ls as bs P P'' :=
  ⟨h.1.tr h'.1, fun a ha => (h'.2.1 a ha).trans (h.2.1 a ha), fun a ha => (h'.2.2.1 a ha).trans (h.2.2.1 a ha), fun a i ha => (h'.2.2.2.1 a i ha).trans (h.2.2.2.1 a i ha), fun a i ha => (h'.2.2.2.2.1 a i ha).trans (h.2.2.2.2.1 a i ha), fun a => (h'.2.2.2.2.2.1 a).trans (h.2.2.2.2.2.1 a), fun a i => (h'.2.2.2.2.2.2 a i).trans (h.2.2.2.2.2.2 a i)⟩
theorem FrO.mono {j : Nat} {is ls as bs is' ls' as' bs' : List Nat} {P P' : PS} (h : FrO j is ls as bs P P') (h1 : is ⊆ is') (h2 : ls ⊆ ls') (h3 : as ⊆ as') (h4 : bs ⊆ bs') : FrO j is' ls' as' bs' P P' :=
  ⟨h.1, fun a ha => h.2.1 a (fun q => ha (h1 q)), fun a ha => h.2.2.1 a (fun q => ha (h2 q)), fun a i ha => h.2.2.2.1 a i (fun q => ha (h3 q)), fun a i ha => h.2.2.2.2.1 a i (fun q => ha (h4 q)), h.2.2.2.2.2⟩
theorem FrJ.sL {j a : Nat} {v : Int64} {P P' : PS} (h : FrJ j P P') : FrJ j P (sL P' j a v) := ⟨h.1, fun j' hj => ⟨(h.2 j' hj).1, fun a' => by rw [gL_sL]; rw [if_neg hj]; split <;> exact (h.2 j' hj).2.1 a', (h.2 j' hj).2.2⟩⟩
theorem FrO.sI {j a : Nat} {is ls as bs : List Nat} {v : Int32} {P P' : PS} (h : FrO j is ls as bs P P') (ha : a ∈ is := by simp) : FrO j is ls as bs P (sI P' j a v) :=
  ⟨h.1.sI, fun b hb => by rw [gI_sI, if_neg (fun (e : b = a) => hb (by rw [e]; exact ha))]; exact h.2.1 b hb, h.2.2⟩
theorem FrO.sL {j a : Nat} {is ls as bs : List Nat} {v : Int64} {P P' : PS} (h : FrO j is ls as bs P P') (ha : a ∈ ls := by simp) : FrO j is ls as bs P (sL P' j a v) :=
  ⟨h.1.sL, h.2.1, fun b hb => by rw [gL_sL, if_neg (fun (e : b = a) => hb (by rw [e]; exact ha))]; exact h.2.2.1 b hb, h.2.2.2⟩
theorem FrO.sA {j a i : Nat} {is ls as bs : List Nat} {v : Int32} {P P' : PS} (h : FrO j is ls as bs P P') (ha : a ∈ as := by simp) : FrO j is ls as bs P (sA P' j a i v) :=
  ⟨h.1.sA, h.2.1, h.2.2.1, fun b i' hb => by rw [gA_sA, if_neg (fun (e : b = a) => hb (by rw [e]; exact ha))]; exact h.2.2.2.1 b i' hb, h.2.2.2.2⟩
theorem FrO.sB {j a i : Nat} {is ls as bs : List Nat} {v : Int64} {P P' : PS} (h : FrO j is ls as bs P P') (ha : a ∈ bs := by simp) : FrO j is ls as bs P (sB P' j a i v) :=
  ⟨h.1.sB, h.2.1, h.2.2.1, h.2.2.2.1, fun b i' hb => by rw [gB_sB, if_neg (fun (e : b = a) => hb (by rw [e]; exact ha))]; exact h.2.2.2.2.1 b i' hb, h.2.2.2.2.2⟩
/-! ===== SPECKLESS, ABOUT's count of pixels: both sides ===== -/
def FpM (g : Nat → Nat → Bool) (P : PS) : Prop := ∀ c r, c < 16 → r < 16 → gA P 0 27 (16 * r + c) = oI (g c r)
def frN (g : Nat → Nat → Bool) : Nat := cnt (fun i => g (i % 16) (i / 16)) 256
def upF (g : Nat → Nat → Bool) (c r : Nat) (v : Bool) : Nat → Nat → Bool := fun c' r' => if c' = c ∧ r' = r then v else g c' r'
theorem frN_set {g : Nat → Nat → Bool} {c r : Nat} (hc : c < 16) (hr : r < 16) (h : g c r = false) : frN (upF g c r true) = frN g + 1 := by
  unfold frN
  refine cnt_upd (k := 16 * r + c) ?_ ?_ (fun i hi => ?_) 256 (by omega)
  · rw [show (16 * r + c) % 16 = c by omega, show (16 * r + c) / 16 = r by omega]; exact h
  · rw [show (16 * r + c) % 16 = c by omega, show (16 * r + c) / 16 = r by omega]; simp [upF]
  · unfold upF; rw [if_neg (by omega)]
theorem upF_self {g : Nat → Nat → Bool} {c r : Nat} {v : Bool} (h : g c r = v) : upF g c r v = g := by
  funext c' r'; unfold upF; split
  · rename_i e; rw [e.1, e.2, h]
  · rfl
theorem frN_unset {g : Nat → Nat → Bool} {c r : Nat} (hc : c < 16) (hr : r < 16) (h : g c r = true) : frN (upF g c r false) + 1 = frN g := by
  have := frN_set (g := upF g c r false) hc hr (by simp [upF])
  rw [← this]
  congr 1
  funext c' r'; simp only [upF]; split
  · rename_i e; rw [e.1, e.2, h]
  · rfl
theorem M_isIn {d : Nat} {a b : Int} {x y : Int32} {R : List PS} {Q : Option AV → List PS → Prop} (hx : x = iI a) (hy : y = iI b) (ha : -2147483648 ≤ a ∧ a < 2147483648) (hb : -2147483648 ≤ b ∧ b < 2147483648) (h : Q (some (vI (oI (decide (0 ≤ a ∧ a < b))))) R) : Tri 199 d [vI x, vI y] R Q := by
  subst hx hy
  refine enX12_isIn ?_
  unfold fX12_isIn_0
  simp (disch := omega) only [iI_lit, iI_lt, iI_le]
  refine ⟨fun c => ⟨Or.inl trivial, ?_⟩, fun c => ⟨fun c1 => ⟨Or.inl trivial, ?_⟩, fun c1 => ⟨Or.inr trivial, ?_⟩⟩⟩
  · rw [decide_eq_false (by omega)] at h; exact h
  · rw [decide_eq_false (by omega)] at h; exact h
  · rw [decide_eq_true (by omega)] at h; exact h
