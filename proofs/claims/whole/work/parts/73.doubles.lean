/-! ===== DOUBLES, both sides ===== -/
theorem rt_le (s : Nat) : rt s ≤ s := by
  have h := (rt_ok s).1
  rcases Nat.eq_zero_or_pos (rt s) with c | c
  · omega
  · exact Nat.le_trans (Nat.le_mul_of_pos_left _ c) h
theorem lenS_bd {l : List SR} (h : ∀ s ∈ l, StOK s) {u v : Nat} (hu : u < l.length) (hv : v < l.length) : lenS l u v ≤ 199600200 := by
  have := rt_le (100 * (dsq l u v).toNat)
  have := dsq_bd h hu hv
  unfold lenS; omega
def lkB (l : List SR) (f : Nat → Int) (a b s : Nat) : Bool := decide (s ≠ a ∧ s ≠ b ∧ abZ ((lenS l a s : Nat) - (lenS l b s : Nat)) ≤ 10 * f 4)
theorem abZ_neg (v : Int) : abZ (-v) = abZ v := by unfold abZ; split <;> split <;> omega
theorem lkB_sym (l : List SR) (f : Nat → Int) (a b s : Nat) : lkB l f a b s = lkB l f b a s := by
  unfold lkB
  rw [show ((lenS l b s : Nat) - (lenS l a s : Nat) : Int) = -((lenS l a s : Nat) - (lenS l b s : Nat)) by omega, abZ_neg]
  exact decide_eq_decide.mpr ⟨fun q => ⟨q.2.1, q.1, q.2.2⟩, fun q => ⟨q.2.1, q.1, q.2.2⟩⟩
def dbl (l : List SR) (f : Nat → Int) (a b : Nat) : Bool := decide (f 7 ≤ (cnt (lkB l f a b) l.length : Nat))
theorem dbl_sym (l : List SR) (f : Nat → Int) (a b : Nat) : dbl l f a b = dbl l f b a := by
  unfold dbl
  rw [cnt_congr l.length (fun i _ => lkB_sym l f a b i)]
def sumN (g : Nat → Nat) : Nat → Nat
  | 0 => 0
  | n + 1 => sumN g n + g n
theorem sumN_congr {g h : Nat → Nat} : ∀ n, (∀ i, i < n → g i = h i) → sumN g n = sumN h n
  | 0, _ => rfl
  | n + 1, e => by unfold sumN; rw [sumN_congr n (fun i hi => e i (by omega)), e n (by omega)]
theorem sumN_le {g : Nat → Nat} {B : Nat} : ∀ n, (∀ i, i < n → g i ≤ B) → sumN g n ≤ n * B
  | 0, _ => by simp [sumN]
  | n + 1, e => by have := sumN_le n (fun i hi => e i (by omega)); have := e n (by omega); unfold sumN; rw [Nat.succ_mul]; omega
theorem sumN_add (g h : Nat → Nat) : ∀ n, sumN (fun i => g i + h i) n = sumN g n + sumN h n
  | 0 => rfl
  | n + 1 => by show sumN (fun i => g i + h i) n + (g n + h n) = (sumN g n + g n) + (sumN h n + h n); rw [sumN_add g h n]; omega
theorem sumN_cnt (p : Nat → Bool) : ∀ n, sumN (fun i => if p i = true then 1 else 0) n = cnt p n
  | 0 => rfl
  | n + 1 => by show sumN (fun i => if p i = true then 1 else 0) n + _ = cnt p n + _; rw [sumN_cnt p n]
def upC (D : Nat → Nat → Bool) (a m : Nat) : Nat := cnt (fun b => decide (a < b) && D a b) m
theorem up_dn {D : Nat → Nat → Bool} (hs : ∀ a b, D a b = D b a) : ∀ n, sumN (fun a => upC D a n) n = sumN (fun a => cnt (D a) a) n
  | 0 => rfl
  | n + 1 => by
    show sumN (fun a => upC D a (n + 1)) n + upC D n (n + 1) = sumN (fun a => cnt (D a) a) n + cnt (D n) n
    have e1 : upC D n (n + 1) = 0 := cnt_zero _ (fun i hi => by simp; omega)
    have e2 : sumN (fun a => upC D a (n + 1)) n = sumN (fun a => upC D a n + (if D n a = true then 1 else 0)) n := sumN_congr n (fun a ha => by
      show cnt (fun b => decide (a < b) && D a b) n + (if (decide (a < n) && D a n) = true then 1 else 0) = _
      rw [decide_eq_true ha, hs a n]; rfl)
    rw [e1, e2, sumN_add, sumN_cnt, up_dn hs n]; rfl
def dblN (l : List SR) (f : Nat → Int) : Nat := sumN (fun a => cnt (dbl l f a) a) l.length
theorem dblN_bd (l : List SR) (f : Nat → Int) (hl : l.length ≤ 32) : ∀ n m, n ≤ 32 → m ≤ 32 → ∀ a, sumN (fun a => cnt (dbl l f a) a) n + cnt (dbl l f a) m ≤ 2000 ∧ sumN (fun a => upC (dbl l f) a l.length) n + upC (dbl l f) a m ≤ 2000 := by
  intro n m hn hm a
  have h1 := sumN_le (g := fun a => cnt (dbl l f a) a) (B := 32) n (fun i hi => Nat.le_trans (cnt_le _ _) (by omega))
  have h2 := cnt_le (dbl l f a) m
  have h3 := sumN_le (g := fun a => upC (dbl l f) a l.length) (B := 32) n (fun i hi => Nat.le_trans (cnt_le _ _) (by omega))
  have h4 : upC (dbl l f) a m ≤ m := cnt_le _ _
  have : n * 32 ≤ 32 * 32 := Nat.mul_le_mul (by omega) (by omega)
  omega
theorem M_dbl30 {d a b x : Nat} {l : List SR} {f : Nat → Int} {P : PS} {R : List PS} {Q : Option AV → List PS → Prop} (hB : BoM l f P) (hF : FOK f) (ha : a < l.length) (hb : b < l.length) (hx : x ≤ 2000) (h : cX12_doubles_16 (0, 0, 0, 0) (d + 2) (iI ((x + (if dbl l f a b = true then 1 else 0) : Nat))) (iI (a : Nat)) (iI ((b + 1 : Nat))) P R Q) : cX12_doubles_30 (0, 0, 0, 0) (d + 2) (iI (x : Nat)) (iI (a : Nat)) (iI (b : Nat)) 0 0 P R Q := by
  have hl := hB.1.2.1
  have key : ∀ m s : Nat, s + m = l.length → cX12_doubles_30 (0, 0, 0, 0) (d + 2) (iI (x : Nat)) (iI (a : Nat)) (iI (b : Nat)) (iI (cnt (lkB l f a b) s : Nat)) (iI (s : Nat)) P R Q := by
    intro m
    induction m with
    | zero =>
      intro s hs
      have es : s = l.length := by omega
      subst es
      have hc := cnt_le (lkB l f a b) l.length
      have h7 := hF.2.2.2.2.2.2.2.1
      refine gX12_doubles_30 ?_
      unfold fX12_doubles_30
      rw [hB.1.1, show ((7 : Int32)).toNatClampNeg = 7 from rfl, hB.2 7 (by omega)]
      simp (disch := omega) only [iI_le, iI_lt]
      refine ⟨fun _ => ⟨vpk (k := 7) (by omega) (by omega), fun c => ?_, fun c => ?_⟩, fun c => absurd (by omega) c⟩
      · rw [show dbl l f a b = false from decide_eq_false (by omega)] at h
        simp only [show (0 : Int32) = iI 0 from rfl, show (1 : Int32) = iI 1 from rfl, iI_add]; exact h
      · rw [show dbl l f a b = true from decide_eq_true (by omega)] at h
        simp only [show (0 : Int32) = iI 0 from rfl, show (1 : Int32) = iI 1 from rfl, iI_add]; exact h
    | succ m ih =>
      intro s hs
      have hc := cnt_le (lkB l f a b) s
      have h4 := hF.2.2.2.2.1
      have ih' := ih (s + 1) (by omega)
      have e2 : cnt (lkB l f a b) (s + 1) = cnt (lkB l f a b) s + (if lkB l f a b s = true then 1 else 0) := rfl
      rw [e2] at ih'
      have no : lkB l f a b s = false → cX12_doubles_30 (0, 0, 0, 0) (d + 2) (iI (x : Nat)) (iI (a : Nat)) (iI (b : Nat)) (iI (cnt (lkB l f a b) s : Nat) + 0) (iI (s : Nat) + 1) P R Q := fun q => by
        rw [q] at ih'; simp only [show (0 : Int32) = iI 0 from rfl, show (1 : Int32) = iI 1 from rfl, iI_add]; exact ih'
      have yes : lkB l f a b s = true → cX12_doubles_30 (0, 0, 0, 0) (d + 2) (iI (x : Nat)) (iI (a : Nat)) (iI (b : Nat)) (iI (cnt (lkB l f a b) s : Nat) + 1) (iI (s : Nat) + 1) P R Q := fun q => by
        rw [q] at ih'; simp only [show (1 : Int32) = iI 1 from rfl, iI_add]; exact ih'
      refine gX12_doubles_30 ?_
      unfold fX12_doubles_30
      rw [hB.1.1]
      simp (disch := omega) only [iI_le, iI_eq]
      refine ⟨fun c => absurd c (by omega), fun _ => ⟨fun c => no (decide_eq_false (by omega)), fun c1 => ⟨fun c => no (decide_eq_false (by omega)), fun c2 => ?_⟩⟩⟩
      refine M_starLength rfl rfl ha (by omega) hB ?_
      dsimp only [hx1, rI]
      refine M_starLength rfl rfl hb (by omega) hB ?_
      dsimp only [hx1, rI]
      have b1 := lenS_bd hB.1.2.2.1 ha (show s < l.length by omega)
      have b2 := lenS_bd hB.1.2.2.1 hb (show s < l.length by omega)
      rw [iI_sub]
      refine M_much rfl (by omega) (by omega) ?_
      dsimp only [hx1, rI]
      have b3 := abZ_nn ((lenS l a s : Nat) - (lenS l b s : Nat))
      have b4 : abZ ((lenS l a s : Nat) - (lenS l b s : Nat)) ≤ 199600200 := abZ_le (by omega) (by omega)
      rw [show ((4 : Int32)).toNatClampNeg = 4 from rfl, hB.2 4 (by omega), show (10 : Int32) = iI 10 from rfl, iI_mul]
      simp (disch := omega) only [iI_lt]
      exact ⟨vpk (k := 4) (by omega) (by omega), fun c => no (decide_eq_false (by omega)), fun c => yes (decide_eq_true (by omega))⟩
  exact key l.length 0 (by omega)
theorem M_doubles {d : Nat} {l : List SR} {f : Nat → Int} {P : PS} {R : List PS} {Q : Option AV → List PS → Prop} (hB : BoM l f P) (hF : FOK f) (h : Q (some (vI (iI (dblN l f : Nat)))) (P :: R)) : Tri 263 (d + 3) [vR 0 0 0] (P :: R) Q := by
  have hl := hB.1.2.1
  refine enX12_doubles ?_
  unfold fX12_doubles_0
  have hu : dblN l f = sumN (fun a => upC (dbl l f) a l.length) l.length := (up_dn (fun a b => dbl_sym l f a b) l.length).symm
  have inner : ∀ a, a < l.length → cX12_doubles_4 (0, 0, 0, 0) (d + 2) (iI (sumN (fun a => upC (dbl l f) a l.length) (a + 1) : Nat)) (iI ((a + 1 : Nat))) P R Q → ∀ m b : Nat, b + m = l.length → a < b → cX12_doubles_16 (0, 0, 0, 0) (d + 2) (iI ((sumN (fun a => upC (dbl l f) a l.length) a + upC (dbl l f) a b : Nat))) (iI (a : Nat)) (iI (b : Nat)) P R Q := by
    intro a ha out m
    induction m with
    | zero =>
      intro b hb hab
      have eb : b = l.length := by omega
      subst eb
      refine gX12_doubles_16 ?_
      unfold fX12_doubles_16
      rw [hB.1.1]
      simp (disch := omega) only [iI_le]
      refine ⟨fun _ => ?_, fun c => absurd (by omega) c⟩
      rw [show (1 : Int32) = iI 1 from rfl, iI_add]; exact out
    | succ m ih =>
      intro b hb hab
      have bd := (dblN_bd l f hl a b (by omega) (by omega) a).2
      refine gX12_doubles_16 ?_
      unfold fX12_doubles_16
      rw [hB.1.1]
      simp (disch := omega) only [iI_le]
      refine ⟨fun c => absurd c (by omega), fun _ => M_dbl30 hB hF ha (by omega) bd ?_⟩
      have := ih (b + 1) (by omega) (by omega)
      have e : upC (dbl l f) a (b + 1) = upC (dbl l f) a b + (if dbl l f a b = true then 1 else 0) := by
        show cnt (fun b => decide (a < b) && dbl l f a b) b + (if (decide (a < b) && dbl l f a b) = true then 1 else 0) = _
        rw [decide_eq_true hab]; rfl
      rw [e, ← Nat.add_assoc] at this
      exact this
  have outer : ∀ m a : Nat, a + m = l.length → cX12_doubles_4 (0, 0, 0, 0) (d + 2) (iI (sumN (fun a => upC (dbl l f) a l.length) a : Nat)) (iI (a : Nat)) P R Q := by
    intro m
    induction m with
    | zero =>
      intro a ha
      have ea : a = l.length := by omega
      subst ea
      refine gX12_doubles_4 ?_
      unfold fX12_doubles_4
      rw [hB.1.1]
      simp (disch := omega) only [iI_le]
      refine ⟨fun _ => ?_, fun c => absurd (by omega) c⟩
      rw [← hu]; exact h
    | succ m ih =>
      intro a ha
      refine gX12_doubles_4 ?_
      unfold fX12_doubles_4
      rw [hB.1.1]
      simp (disch := omega) only [iI_le]
      refine ⟨fun c => absurd c (by omega), fun _ => ?_⟩
      have := inner a (by omega) (ih (a + 1) (by omega)) m (a + 1) (by omega) (by omega)
      have e0 : upC (dbl l f) a (a + 1) = 0 := cnt_zero _ (fun i hi => by simp; omega)
      rw [e0] at this
      rw [show (1 : Int32) = iI 1 from rfl, iI_add]; exact this
  exact outer l.length 0 (by omega)
/-- a BOOK in the class, that is looked at -/
def BoC (j : Nat) (l : List SR) (f : Nat → Int) (P : PS) : Prop := SsC j l P ∧ TdC j f P ∧ LnC j l P
theorem BoC.st {j : Nat} {l : List SR} {f : Nat → Int} {P : PS} (h : BoC j l f P) {i : Nat} (hi : i < l.length) : (0 ≤ (nthS l i).2.1 ∧ (nthS l i).2.1 ≤ 999) ∧ (0 ≤ (nthS l i).2.2.1 ∧ (nthS l i).2.2.1 ≤ 999) ∧ 1 ≤ (nthS l i).2.2.2 ∧ (nthS l i).2.2.2 ≤ 99 := (h.1.2.2.1 _ (nthS_mem hi)).2
theorem C_isDouble {d j a b : Nat} {l : List SR} {f : Nat → Int} {P0 P1 P2 : PS} {R : List PS} {Q : Option AV → List PS → Prop} (hB : BoC j l f P2) (hF : FOK f) (ha : a < l.length) (hb : b < l.length) (h : Q (some (vI (oI (dbl l f a b)))) (P0 :: P1 :: P2 :: R)) : Tri 97 (d + 2) [vR 2 j 0, vI (iI (a : Nat)), vI (iI (b : Nat))] (P0 :: P1 :: P2 :: R) Q := by
  have hl := hB.1.2.1
  refine enX8_isDouble ?_
  unfold fX8_isDouble_0
  have key : ∀ m s : Nat, s + m = l.length → cX8_isDouble_5 (0, 0, 0, 0) (d + 1) j (iI (a : Nat)) (iI (b : Nat)) (iI (cnt (lkB l f a b) s : Nat)) (iI (s : Nat)) P0 P1 P2 R Q := by
    intro m
    induction m with
    | zero =>
      intro s hs
      have es : s = l.length := by omega
      subst es
      have hc := cnt_le (lkB l f a b) l.length
      have h7 := hF.2.2.2.2.2.2.2.1
      refine gX8_isDouble_5 ?_
      unfold fX8_isDouble_5
      rw [hB.1.1, show gI P2 j 13 = iI (f 7) from hB.2.1 7 (by omega)]
      simp (disch := omega) only [iI_le, iI_lt]
      refine ⟨fun _ => ⟨fun c => ?_, fun c => ?_⟩, fun c => absurd (by omega) c⟩
      · rw [show dbl l f a b = false from decide_eq_false (by omega)] at h
        exact ⟨Or.inl trivial, h⟩
      · rw [show dbl l f a b = true from decide_eq_true (by omega)] at h
        exact ⟨Or.inr trivial, h⟩
    | succ m ih =>
      intro s hs
      have hc := cnt_le (lkB l f a b) s
      have h4 := hF.2.2.2.2.1
      have ih' := ih (s + 1) (by omega)
      have e2 : cnt (lkB l f a b) (s + 1) = cnt (lkB l f a b) s + (if lkB l f a b s = true then 1 else 0) := rfl
      rw [e2] at ih'
      have no : lkB l f a b s = false → cX8_isDouble_5 (0, 0, 0, 0) (d + 1) j (iI (a : Nat)) (iI (b : Nat)) (iI (cnt (lkB l f a b) s : Nat)) (iI (s : Nat) + 1) P0 P1 P2 R Q := fun q => by
        rw [q] at ih'; simp only [show (1 : Int32) = iI 1 from rfl, iI_add]; exact ih'
      have yes : lkB l f a b s = true → cX8_isDouble_5 (0, 0, 0, 0) (d + 1) j (iI (a : Nat)) (iI (b : Nat)) (iI (cnt (lkB l f a b) s : Nat) + 1) (iI (s : Nat) + 1) P0 P1 P2 R Q := fun q => by
        rw [q] at ih'; simp only [show (1 : Int32) = iI 1 from rfl, iI_add]; exact ih'
      refine gX8_isDouble_5 ?_
      unfold fX8_isDouble_5
      rw [hB.1.1]
      simp (disch := omega) only [iI_le, iI_eq]
      refine ⟨fun c => absurd c (by omega), fun _ => ?_⟩
      refine C_lengthOf rfl rfl (by omega) ha hB.1 hB.2.2 ?_
      dsimp only [hx3, rI]
      refine C_lengthOf rfl rfl (by omega) hb hB.1 hB.2.2 ?_
      dsimp only [hx3, rI]
      rw [lenS_sym l s a, lenS_sym l s b]
      have b1 := lenS_bd hB.1.2.2.1 ha (show s < l.length by omega)
      have b2 := lenS_bd hB.1.2.2.1 hb (show s < l.length by omega)
      rw [iI_sub, abs_i (by omega) (by omega)]
      have b3 := abZ_nn ((lenS l a s : Nat) - (lenS l b s : Nat))
      have b4 : abZ ((lenS l a s : Nat) - (lenS l b s : Nat)) ≤ 199600200 := abZ_le (by omega) (by omega)
      rw [show gI P2 j 10 = iI (f 4) from hB.2.1 4 (by omega), show (10 : Int32) = iI 10 from rfl, iI_mul]
      simp (disch := omega) only [iI_lt]
      exact ⟨fun c => no (decide_eq_false (by omega)), fun c1 => ⟨fun c => no (decide_eq_false (by omega)), fun c2 => ⟨fun c => no (decide_eq_false (by omega)), fun c => yes (decide_eq_true (by omega))⟩⟩⟩
  exact key l.length 0 (by omega)
def DbC (l : List SR) (f : Nat → Int) (P : PS) : Prop := gI P 0 13 ≠ 0 → gI P 0 9 = iI (dblN l f : Nat)
theorem C_countDoubles {d j : Nat} {l : List SR} {f : Nat → Int} {P0 P1 P2 P3 P4 P5 : PS} {R : List PS} {Q : Option AV → List PS → Prop} (hB : BoC j l f P2) (hF : FOK f) (hD : DbC l f P5) (h : ∀ P', DbC l f P' → Fr [13, 9] [] [] [] P5 P' → Q (some (vI (iI (dblN l f : Nat)))) (P0 :: P1 :: P2 :: P3 :: P4 :: P' :: R)) : Tri 96 (d + 3) [vR 5 0 0, vR 2 j 0] (P0 :: P1 :: P2 :: P3 :: P4 :: P5 :: R) Q := by
  have hl := hB.1.2.1
  refine enX8_countDoubles ?_
  unfold fX8_countDoubles_0
  refine ⟨fun c => ?_, fun c => ⟨Or.inr rfl, ?_⟩⟩
  · have := h P5 hD Fr.rf
    rw [← hD c] at this; exact this
  have F0 : Fr [13, 9] [] [] [] P5 (sI (sI P5 0 13 (1 : Int32)) 0 9 (0 : Int32)) := (Fr.rf.sI (by simp)).sI (by simp)
  have z0 : gI (sI (sI P5 0 13 (1 : Int32)) 0 9 (0 : Int32)) 0 9 = iI ((0 : Nat) : Int) := rfl
  generalize sI (sI P5 0 13 (1 : Int32)) 0 9 (0 : Int32) = A0 at *
  have inner : ∀ a, a < l.length → (∀ A, Fr [13, 9] [] [] [] P5 A → gI A 0 9 = iI (sumN (fun a => cnt (dbl l f a) a) (a + 1) : Nat) → cX8_countDoubles_19 (0, 0, 0, 0) (d + 2) j (iI ((a + 1 : Nat))) P0 P1 P2 P3 P4 A R Q) → ∀ m b : Nat, ∀ A, b + m = a → Fr [13, 9] [] [] [] P5 A → gI A 0 9 = iI ((sumN (fun a => cnt (dbl l f a) a) a + cnt (dbl l f a) b : Nat)) → cX8_countDoubles_29 (0, 0, 0, 0) (d + 2) j (iI (a : Nat)) (iI (b : Nat)) P0 P1 P2 P3 P4 A R Q := by
    intro a ha out m
    induction m with
    | zero =>
      intro b A hb fA gA'
      have eb : b = a := by omega
      subst eb
      refine gX8_countDoubles_29 ?_
      unfold fX8_countDoubles_29
      simp (disch := omega) only [iI_le]
      refine ⟨fun _ => ?_, fun c => absurd (by omega) c⟩
      rw [show (1 : Int32) = iI 1 from rfl, iI_add]; exact out A fA gA'
    | succ m ih =>
      intro b A hb fA gA'
      refine gX8_countDoubles_29 ?_
      unfold fX8_countDoubles_29
      simp (disch := omega) only [iI_le]
      refine ⟨fun c => absurd c (by omega), fun _ => C_isDouble hB hF ha (by omega) ?_⟩
      dsimp only [hx6, rI]
      rw [oI_z, gA', show (1 : Int32) = iI 1 from rfl, iI_add, iI_add]
      have e : cnt (dbl l f a) (b + 1) = cnt (dbl l f a) b + (if dbl l f a b = true then 1 else 0) := rfl
      refine ⟨fun c => ?_, fun c => ?_⟩
      · refine ih (b + 1) A (by omega) fA ?_
        rw [e, c]; exact gA'
      · refine ih (b + 1) _ (by omega) (fA.sI (by simp)) ?_
        rw [e, show dbl l f a b = true by simpa using c, gI_sI, if_pos rfl, if_pos rfl]
        refine congrArg iI ?_
        simp only [if_true]; omega
  have outer : ∀ m a : Nat, ∀ A, a + m = l.length → Fr [13, 9] [] [] [] P5 A → gI A 0 9 = iI (sumN (fun a => cnt (dbl l f a) a) a : Nat) → cX8_countDoubles_19 (0, 0, 0, 0) (d + 2) j (iI (a : Nat)) P0 P1 P2 P3 P4 A R Q := by
    intro m
    induction m with
    | zero =>
      intro a A ha fA gA'
      have ea : a = l.length := by omega
      subst ea
      refine gX8_countDoubles_19 ?_
      unfold fX8_countDoubles_19
      rw [hB.1.1]
      simp (disch := omega) only [iI_le]
      refine ⟨fun _ => ?_, fun c => absurd (by omega) c⟩
      rw [gA']; exact h A (fun _ => gA') fA
    | succ m ih =>
      intro a A ha fA gA'
      refine gX8_countDoubles_19 ?_
      unfold fX8_countDoubles_19
      rw [hB.1.1]
      simp (disch := omega) only [iI_le]
      exact ⟨fun c => absurd c (by omega), fun _ => inner a (by omega) (fun A' f' g' => ih (a + 1) A' (by omega) f' g') a 0 A (by omega) fA gA'⟩
  exact outer l.length 0 A0 (by omega) F0 z0
theorem C_doubles {d k : Nat} {l : List SR} {f : Nat → Int} {P0 P1 P2 P3 P4 P5 P6 P7 P8 P9 P10 P11 P12 : PS} {R : List PS} {Q : Option AV → List PS → Prop} (hk : gO P12 0 11 = some k) (hB : BoC k l f P2) (hF : FOK f) (hD : DbC l f P5) (h : ∀ P', DbC l f P' → Fr [13, 9] [] [] [] P5 P' → Q (some (vI (iI (dblN l f : Nat)))) (P0 :: P1 :: P2 :: P3 :: P4 :: P' :: P6 :: P7 :: P8 :: P9 :: P10 :: P11 :: P12 :: R)) : Tri 152 (d + 4) [vR 12 0 0] (P0 :: P1 :: P2 :: P3 :: P4 :: P5 :: P6 :: P7 :: P8 :: P9 :: P10 :: P11 :: P12 :: R) Q := by
  refine enX11_doubles ?_
  unfold fX11_doubles_0
  rw [hk]
  simp only [oM]
  refine C_countDoubles hB hF hD (fun P' h1 h2 => ?_)
  dsimp only [hx13, rI]
  exact h P' h1 h2
