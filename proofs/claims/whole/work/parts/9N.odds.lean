/-! ===== ODDS: what they are; the Model ===== -/
theorem fitN_496 (X Y : Nat → Int) (l : List SR) (o : Int) (i j : Nat) (hl : l.length ≤ 32) : fitN X Y l o i j ≤ 496 := by
  have mono : ∀ (g h : Nat → Nat) n, (∀ i, i < n → g i ≤ h i) → sumN g n ≤ sumN h n := by
    intro g h n
    induction n with
    | zero => intro _; exact Nat.le_refl _
    | succ n ih =>
      intro e
      have a := ih (fun i hi => e i (by omega))
      have b := e n (by omega)
      unfold sumN; omega
  have fin : ∀ n, n ≤ 32 → sumN (fun s => s) n ≤ 496 := by decide +kernel
  exact Nat.le_trans (mono _ (fun s => s) l.length (fun s _ => cnt_le _ _)) (fin l.length hl)
theorem NmM.same {y : SY} {z k : Int} {p w : Nat} {l : List SR} {f : Nat → Int} {P P' : PS} {ls bs : List Nat} (h : NmM y z k p w l f P) (hf : Fr [] ls [] bs P P') : NmM y z k p w l f P' :=
  ⟨⟨h.1.1.fr hf (by simp) (by simp) (by simp) (by simp) (by simp) (by simp) (by simp) (by simp) (by simp) (by simp), h.1.2.1, h.1.2.2.1, h.1.2.2.2.1.fr hf (by simp) (by simp) (by simp) (by simp) (by simp), ⟨fun a b ha hb => by rw [hf.2.2.2.1 _ _ (by simp)]; exact h.1.2.2.2.2.1.1 a b ha hb, fun i j hi hj => by rw [hf.2.2.2.1 _ _ (by simp)]; exact h.1.2.2.2.2.1.2 i j hi hj⟩, h.1.2.2.2.2.2⟩, ⟨by rw [hf.2.1 _ (by simp)]; exact h.2.1.1, fun e q he hq => by rw [hf.2.2.2.1 _ _ (by simp)]; exact h.2.1.2 e q he hq⟩, by rw [hf.2.1 _ (by simp)]; exact h.2.2⟩
theorem M_fitting {d i j A : Nat} {X Y : Nat → Int} {l : List SR} {f : Nat → Int} {x1 x2 : Int32} {P : PS} {R : List PS} {Q : Option AV → List PS → Prop} (e1 : x1 = iI (i : Nat)) (e2 : x2 = iI (j : Nat)) (hi : i < A) (hj : j < A) (hA : A ≤ 6) (hB : BoM l f P) (hF : FOK f) (hX : ∀ i, i < A → (0 ≤ X i ∧ X i ≤ 1395) ∧ 0 ≤ Y i ∧ Y i ≤ 1395) (hE : LeM X Y l A P) (h : Q (some (vI (iI (fitN X Y l (f 4) i j : Nat)))) (P :: R)) : Tri 237 (d + 2) [vR 0 0 0, vI x1, vI x2] (P :: R) Q := by
  subst e1 e2
  have hl := hB.1.2.1
  refine enX12_fitting ?_
  unfold fX12_fitting_0
  have hu : fitN X Y l (f 4) i j = sumN (fun a => upC (ftB X Y l (f 4) i j) a l.length) l.length := (up_dn (fun a b => ftB_sym X Y l (f 4) i j a b) l.length).symm
  have bd : ∀ a b, a ≤ 32 → b ≤ 32 → sumN (fun a => upC (ftB X Y l (f 4) i j) a l.length) a + upC (ftB X Y l (f 4) i j) a b ≤ 2000 := fun a b ha hb => by
    have h3 := sumN_le (g := fun a => upC (ftB X Y l (f 4) i j) a l.length) (B := 32) a (fun i hi => Nat.le_trans (cnt_le _ _) (by omega))
    have h4 : upC (ftB X Y l (f 4) i j) a b ≤ b := cnt_le _ _
    have : a * 32 ≤ 32 * 32 := Nat.mul_le_mul (by omega) (by omega)
    omega
  have inner : ∀ a, a < l.length → cX12_fitting_5 (0, 0, 0, 0) (d + 1) (iI (i : Nat)) (iI (j : Nat)) (iI (sumN (fun a => upC (ftB X Y l (f 4) i j) a l.length) (a + 1) : Nat)) (iI ((a + 1 : Nat))) P R Q → ∀ m b : Nat, b + m = l.length → a < b → cX12_fitting_20 (0, 0, 0, 0) (d + 1) (iI (i : Nat)) (iI (j : Nat)) (iI ((sumN (fun a => upC (ftB X Y l (f 4) i j) a l.length) a + upC (ftB X Y l (f 4) i j) a b : Nat))) (iI (a : Nat)) (iI (b : Nat)) P R Q := by
    intro a ha out m
    induction m with
    | zero =>
      intro b hb hab
      have eb : b = l.length := by omega
      subst eb
      refine gX12_fitting_20 ?_
      unfold fX12_fitting_20
      rw [hB.1.1]
      simp (disch := omega) only [iI_le]
      refine ⟨fun _ => ?_, fun c => absurd (by omega) c⟩
      rw [show (1 : Int32) = iI 1 from rfl, iI_add]; exact out
    | succ m ih =>
      intro b hb hab
      have b0 := bd a b (by omega) (by omega)
      have ih' := ih (b + 1) (by omega) (by omega)
      have e : upC (ftB X Y l (f 4) i j) a (b + 1) = upC (ftB X Y l (f 4) i j) a b + (if ftB X Y l (f 4) i j a b = true then 1 else 0) := by
        show cnt (fun b => decide (a < b) && ftB X Y l (f 4) i j a b) b + (if (decide (a < b) && ftB X Y l (f 4) i j a b) = true then 1 else 0) = _
        rw [decide_eq_true hab]; rfl
      rw [e, ← Nat.add_assoc] at ih'
      refine gX12_fitting_20 ?_
      unfold fX12_fitting_20
      rw [hB.1.1]
      simp (disch := omega) only [iI_le]
      refine ⟨fun c => absurd c (by omega), fun _ => ?_⟩
      refine M_fit rfl rfl rfl rfl hi hj hA ha (by omega) hB hF hX hE (fun c => ?_) (fun c => ?_)
      · dsimp only [hx1, rI]
        refine ⟨fun g => absurd g (by decide), fun _ => ?_⟩
        rw [if_pos (show ftB X Y l (f 4) i j a b = true from dcd_t.mpr c)] at ih'
        simp only [show (1 : Int32) = iI 1 from rfl, iI_add]; exact ih'
      · dsimp only [hx1, rI]
        refine ⟨fun _ => ?_, fun g => absurd rfl g⟩
        rw [if_neg (show ¬ ftB X Y l (f 4) i j a b = true from fun g => c (dcd_t.mp g))] at ih'
        simp only [show (0 : Int32) = iI 0 from rfl, show (1 : Int32) = iI 1 from rfl, iI_add]; exact ih'
  have outer : ∀ m a : Nat, a + m = l.length → cX12_fitting_5 (0, 0, 0, 0) (d + 1) (iI (i : Nat)) (iI (j : Nat)) (iI (sumN (fun a => upC (ftB X Y l (f 4) i j) a l.length) a : Nat)) (iI (a : Nat)) P R Q := by
    intro m
    induction m with
    | zero =>
      intro a ha
      have ea : a = l.length := by omega
      subst ea
      refine gX12_fitting_5 ?_
      unfold fX12_fitting_5
      rw [hB.1.1]
      simp (disch := omega) only [iI_le]
      refine ⟨fun _ => ?_, fun c => absurd (by omega) c⟩
      rw [← hu]; exact h
    | succ m ih =>
      intro a ha
      refine gX12_fitting_5 ?_
      unfold fX12_fitting_5
      rw [hB.1.1]
      simp (disch := omega) only [iI_le]
      refine ⟨fun c => absurd c (by omega), fun _ => ?_⟩
      have z0 : upC (ftB X Y l (f 4) i j) a (a + 1) = 0 := cnt_zero _ (fun i hi => by simp; omega)
      have := inner a (by omega) (ih (a + 1) (by omega)) m (a + 1) (by omega) (by omega)
      rw [z0, Nat.add_zero] at this
      rw [show (1 : Int32) = iI 1 from rfl, iI_add]; exact this
  exact outer l.length 0 (by omega)
theorem M_reduce {d : Nat} {a b : Int} {x y : Int64} {P : PS} {R : List PS} {Q : Option AV → List PS → Prop} (hx : x = iL a) (hy : y = iL b) (ha : -9223372036854775808 < a ∧ a < 9223372036854775808) (hb : -1125899906842624 < b ∧ b < 1125899906842624) (h0 : b ≠ 0) (h : Q none (sL (sL P 0 50 (iL a / iL (Int.gcd a b : Nat))) 0 51 (iL b / iL (Int.gcd a b : Nat)) :: R)) : Tri 236 (d + 1) [vR 0 0 0, vL x, vL y] (P :: R) Q := by
  subst hx hy
  refine enX12_reduce ?_
  unfold fX12_reduce_0
  refine M_common rfl rfl ha (by omega) ?_
  dsimp only [hx1, rL]
  have gb := gcd_bd ha hb
  have g0 : Int.gcd a b ≠ 0 := fun c => h0 (Int.gcd_eq_zero_iff.mp c).2
  have ne : ¬ iL (Int.gcd a b : Nat) = 0 := by rw [show (0 : Int64) = iL 0 from rfl, iL_eq (by omega) (by omega) (by omega) (by omega)]; omega
  exact ⟨ne, ne, h⟩
/-- the point that was named last before q -/
def bfN (g : Nat → Nat) : Nat → Int
  | 0 => -1
  | q + 1 => if g q = 32 then bfN g q else q
def odU (F : Nat → Nat → Nat) (g : Nat → Nat) : Nat → Nat
  | 0 => 1
  | q + 1 => if g q = 32 ∨ bfN g q < 0 then odU F g q else odU F g q * F (bfN g q).toNat q
def odL (N : Nat) (g : Nat → Nat) : Nat → Nat
  | 0 => 1
  | q + 1 => if g q = 32 ∨ bfN g q < 0 then odL N g q else odL N g q * N
theorem bfN_s (g : Nat → Nat) (q : Nat) : bfN g (q + 1) = if g q = 32 then bfN g q else (q : Int) := rfl
theorem odU_s (F : Nat → Nat → Nat) (g : Nat → Nat) (q : Nat) : odU F g (q + 1) = if g q = 32 ∨ bfN g q < 0 then odU F g q else odU F g q * F (bfN g q).toNat q := rfl
theorem odL_s (N : Nat) (g : Nat → Nat) (q : Nat) : odL N g (q + 1) = if g q = 32 ∨ bfN g q < 0 then odL N g q else odL N g q * N := rfl
theorem bfN_ok (g : Nat → Nat) : ∀ q, -1 ≤ bfN g q ∧ bfN g q < q ∧ (0 ≤ bfN g q → g (bfN g q).toNat ≠ 32)
  | 0 => by unfold bfN; omega
  | q + 1 => by
    have h := bfN_ok g q
    unfold bfN
    split
    · exact ⟨h.1, by omega, h.2.2⟩
    · rename_i c
      exact ⟨by omega, by omega, fun _ => by rw [Int.toNat_natCast]; exact c⟩
theorem odU_le {F : Nat → Nat → Nat} {g : Nat → Nat} (hF : ∀ a b, F a b ≤ 496) : ∀ q, odU F g q ≤ 496 ^ (q - 1)
  | 0 => Nat.le_refl _
  | 1 => by unfold odU; rw [if_pos (Or.inr (by unfold bfN; omega))]; exact Nat.le_refl _
  | q + 2 => by
    have h := odU_le (g := g) hF (q + 1)
    have e : 496 ^ (q + 2 - 1) = 496 ^ (q + 1 - 1) * 496 := by rw [show q + 2 - 1 = (q + 1 - 1) + 1 by omega, Nat.pow_succ]
    rw [e]
    unfold odU
    split
    · exact Nat.le_trans h (Nat.le_mul_of_pos_right _ (by omega))
    · exact Nat.mul_le_mul h (hF _ _)
theorem odL_le {N : Nat} {g : Nat → Nat} (hN : N ≤ 496) : ∀ q, odL N g q ≤ 496 ^ (q - 1)
  | 0 => Nat.le_refl _
  | 1 => by unfold odL; rw [if_pos (Or.inr (by unfold bfN; omega))]; exact Nat.le_refl _
  | q + 2 => by
    have h := odL_le (g := g) hN (q + 1)
    have e : 496 ^ (q + 2 - 1) = 496 ^ (q + 1 - 1) * 496 := by rw [show q + 2 - 1 = (q + 1 - 1) + 1 by omega, Nat.pow_succ]
    rw [e]
    unfold odL
    split
    · exact Nat.le_trans h (Nat.le_mul_of_pos_right _ (by omega))
    · exact Nat.mul_le_mul h hN
theorem odL_pos {N : Nat} {g : Nat → Nat} (hN : 0 < N) : ∀ q, 0 < odL N g q
  | 0 => by unfold odL; omega
  | q + 1 => by
    unfold odL
    split
    · exact odL_pos hN q
    · exact Nat.mul_pos (odL_pos hN q) hN
theorem p496 : ∀ q, q ≤ 6 → 496 ^ (q - 1) ≤ 31000000000000 ∧ 496 ^ (q - 1) < 1125899906842624 := by decide +kernel
/-- a fraction in lowest terms, times another -/
theorem red_mul (u l a b : Nat) (hl : 0 < l) : u * a / Nat.gcd (u * a) (l * b) = (u / Nat.gcd u l * a) / Nat.gcd (u / Nat.gcd u l * a) (l / Nat.gcd u l * b) ∧ l * b / Nat.gcd (u * a) (l * b) = (l / Nat.gcd u l * b) / Nat.gcd (u / Nat.gcd u l * a) (l / Nat.gcd u l * b) := by
  have gp : 0 < Nat.gcd u l := Nat.gcd_pos_of_pos_right u hl
  have eu : Nat.gcd u l * (u / Nat.gcd u l) = u := Nat.mul_div_cancel' (Nat.gcd_dvd_left u l)
  have el : Nat.gcd u l * (l / Nat.gcd u l) = l := Nat.mul_div_cancel' (Nat.gcd_dvd_right u l)
  have eua : u * a = Nat.gcd u l * (u / Nat.gcd u l * a) := by rw [← Nat.mul_assoc, eu]
  have elb : l * b = Nat.gcd u l * (l / Nat.gcd u l * b) := by rw [← Nat.mul_assoc, el]
  generalize hU : u / Nat.gcd u l * a = U at *
  generalize hL : l / Nat.gcd u l * b = L at *
  rw [eua, elb, Nat.gcd_mul_left, Nat.mul_div_mul_left _ _ gp, Nat.mul_div_mul_left _ _ gp]
  exact ⟨rfl, rfl⟩
