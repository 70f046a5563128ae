/-! ===== FOLLOW: what it is; the Model ===== -/
def nrM (D : Nat → Int) (tk : Nat → Bool) : Nat → Int × Int
  | 0 => (-1, 0)
  | q + 1 => if tk q = true ∨ (0 ≤ (nrM D tk q).1 ∧ (nrM D tk q).2 ≤ D q) then nrM D tk q else ((q : Int), D q)
def nrC (D : Nat → Int) (tk : Nat → Bool) (M : Int) : Nat → Int × Int
  | 0 => (-1, M)
  | q + 1 => if tk q = false ∧ ((nrC D tk M q).1 = -1 ∧ D q ≤ (nrC D tk M q).2 ∨ (nrC D tk M q).1 ≠ -1 ∧ D q < (nrC D tk M q).2) then ((q : Int), D q) else nrC D tk M q
theorem nrM_s (D : Nat → Int) (tk : Nat → Bool) (q : Nat) : nrM D tk (q + 1) = if tk q = true ∨ (0 ≤ (nrM D tk q).1 ∧ (nrM D tk q).2 ≤ D q) then nrM D tk q else ((q : Int), D q) := rfl
theorem nrC_s (D : Nat → Int) (tk : Nat → Bool) (M : Int) (q : Nat) : nrC D tk M (q + 1) = if tk q = false ∧ ((nrC D tk M q).1 = -1 ∧ D q ≤ (nrC D tk M q).2 ∨ (nrC D tk M q).1 ≠ -1 ∧ D q < (nrC D tk M q).2) then ((q : Int), D q) else nrC D tk M q := rfl
/-- the nearest point that isn't taken, or -1 -/
def nr (D : Nat → Int) (tk : Nat → Bool) (M : Int) (n : Nat) : Int := if 0 ≤ (nrM D tk n).1 ∧ (nrM D tk n).2 ≤ M then (nrM D tk n).1 else -1
theorem nrM_ok (D : Nat → Int) (tk : Nat → Bool) {B : Int} (hB : 0 ≤ B) (hD : ∀ q, 0 ≤ D q ∧ D q ≤ B) : ∀ n : Nat, -1 ≤ (nrM D tk n).1 ∧ (nrM D tk n).1 < n ∧ 0 ≤ (nrM D tk n).2 ∧ (nrM D tk n).2 ≤ B
  | 0 => by unfold nrM; exact ⟨by omega, by omega, by omega, hB⟩
  | q + 1 => by
    have h := nrM_ok D tk hB hD q
    have d := hD q
    rw [nrM_s]
    split
    · omega
    · exact ⟨by show (-1 : Int) ≤ q; omega, by show (q : Int) < (q + 1 : Nat); omega, d⟩
theorem nr_C (D : Nat → Int) (tk : Nat → Bool) (M : Int) : ∀ n : Nat, ((0 ≤ (nrM D tk n).1 ∧ (nrM D tk n).2 ≤ M ∧ (nrC D tk M n).1 = (nrM D tk n).1 ∧ (nrC D tk M n).2 = (nrM D tk n).2) ∨ (¬ (0 ≤ (nrM D tk n).1 ∧ (nrM D tk n).2 ≤ M) ∧ (nrC D tk M n).1 = -1 ∧ (nrC D tk M n).2 = M)) ∧ -1 ≤ (nrM D tk n).1
  | 0 => by unfold nrC nrM; exact ⟨Or.inr ⟨by omega, rfl, rfl⟩, by omega⟩
  | q + 1 => by
    have h := nr_C D tk M q
    rw [nrC_s, nrM_s]
    generalize (nrM D tk q) = m at *
    generalize (nrC D tk M q) = r at *
    obtain ⟨m1, m2⟩ := m
    obtain ⟨r1, r2⟩ := r
    generalize D q = dq at *
    cases tk q
    · simp only [Bool.false_eq_true, false_or, true_and] at h ⊢
      split <;> split <;> dsimp only at h ⊢ <;> omega
    · simp only [true_or, if_true, Bool.true_eq_false, false_and, if_false] at h ⊢
      exact h
theorem nr_eC (D : Nat → Int) (tk : Nat → Bool) (M : Int) (n : Nat) : (nrC D tk M n).1 = nr D tk M n := by
  have h := (nr_C D tk M n).1
  unfold nr
  rcases h with g | g
  · rw [if_pos ⟨g.1, g.2.1⟩]; exact g.2.2.1
  · rw [if_neg g.1]; exact g.2.1
/-- which are taken, and how many, when the first p are followed -/
def fwT (D : Nat → Nat → Int) (M : Int) (n : Nat) : Nat → (Nat → Bool) × Nat
  | 0 => (fun _ => false, 0)
  | p + 1 => if nr (D p) (fwT D M n p).1 M n < 0 then fwT D M n p else (fun i => decide (i = (nr (D p) (fwT D M n p).1 M n).toNat) || (fwT D M n p).1 i, (fwT D M n p).2 + 1)
theorem fwT_s (D : Nat → Nat → Int) (M : Int) (n p : Nat) : fwT D M n (p + 1) = if nr (D p) (fwT D M n p).1 M n < 0 then fwT D M n p else (fun i => decide (i = (nr (D p) (fwT D M n p).1 M n).toNat) || (fwT D M n p).1 i, (fwT D M n p).2 + 1) := rfl
theorem fwT_le (D : Nat → Nat → Int) (M : Int) (n : Nat) : ∀ p, (fwT D M n p).2 ≤ p
  | 0 => Nat.le_refl _
  | p + 1 => by
    have := fwT_le D M n p
    rw [fwT_s]
    split
    · omega
    · show _ + 1 ≤ _; omega
noncomputable def ppX (y : SY) (z k : Int) (p i : Nat) : Int := (dt (y.2.1 p) z (ptD y z k p i)).1
noncomputable def ppY (y : SY) (z k : Int) (p i : Nat) : Int := (dt (y.2.1 p) z (ptD y z k p i)).2.1
noncomputable def fD (y : SY) (z k : Int) (a b : Nat) (x v : Int) (p q : Nat) : Int := abZ (ppX y z k b q - (ppX y z k a p + x)) + abZ (ppY y z k b q - (ppY y z k a p + v))
/-- of what picks the nearest only the points of the picture count -/
theorem nrM_c {D D' : Nat → Int} {tk tk' : Nat → Bool} : ∀ n : Nat, (∀ q, q < n → D q = D' q ∧ tk q = tk' q) → nrM D tk n = nrM D' tk' n
  | 0, _ => rfl
  | n + 1, h => by rw [nrM_s, nrM_s, nrM_c n (fun q hq => h q (by omega)), (h n (by omega)).1, (h n (by omega)).2]
theorem LaM.xy {y : SY} {z k : Int} {p i : Nat} {P : PS} (h : LaM y z k p P) (hi : i < nP y z k p) : vp_in (gA P 0 42 i) 140 ∧ vp_in (gA P 0 35 (gA P 0 42 i).toNatClampNeg) 140 ∧ gA P 0 31 (gA P 0 35 (gA P 0 42 i).toNatClampNeg).toNatClampNeg = iI (ppX y z k p i) ∧ gA P 0 32 (gA P 0 35 (gA P 0 42 i).toNatClampNeg).toNatClampNeg = iI (ppY y z k p i) := by
  obtain ⟨e, o, he, ho, g1, g2, g3⟩ := h.at hi
  rw [g1, iI_cl (a := (e : Nat)) (by omega) (by omega), Int.toNat_natCast, g2, iI_cl (a := (o : Nat)) (by omega) (by omega), Int.toNat_natCast]
  exact ⟨vpk he (by omega), vpk ho (by omega), g3.1, g3.2.1⟩
abbrev flI : List Nat := [64, 65, 38, 39, 43]
abbrev flA : List Nat := [60, 61, 62, 63, 30, 31, 32, 33, 37, 36, 35, 40, 41, 34, 42]
def okF (y : SY) (a b x v k : Int) : Prop := cntS y a k = true ∧ cntS y b k = true ∧ (-999 ≤ x ∧ x ≤ 999) ∧ (-999 ≤ v ∧ v ≤ 999)
def FlM (y : SY) (z k : Int) (f : Nat → Int) (a b : Nat) (x v : Int) (P : PS) : Prop := gI P 0 64 = iI (nP y z k a : Nat) ∧ gI P 0 43 = iI (nP y z k b : Nat) ∧ gI P 0 65 = iI ((fwT (fD y z k a b x v) (10 * f 4) (nP y z k b) (nP y z k a)).2 : Nat) ∧ ∀ p, p < nP y z k a → gA P 0 62 p = iI (nr (fD y z k a b x v p) (fwT (fD y z k a b x v) (10 * f 4) (nP y z k b) p).1 (10 * f 4) (nP y z k b))
theorem pXY_bd {y : SY} {z k : Int} {p i w : Nat} (hK : LtK p w z (y.2.1 p)) (hi : i < nP y z k p) : (0 ≤ ppX y z k p i ∧ ppX y z k p i ≤ 155) ∧ 0 ≤ ppY y z k p i ∧ ppY y z k p i ≤ 155 := by
  have b := dt_ok hK.2.2.2.1 hK.2.2.1.1 (ptD_lt hi)
  unfold ppX ppY
  omega
