/-! ===== the lowest bit ===== -/
theorem low_sub {x : Int32} {k : Nat} (hk : k < 32) (h1 : bz x k = true) (h0 : ∀ i, i < k → bz x i = false) : ∀ i, i < 32 → bz (x - 1) i = if i < k then true else if i = k then false else bz x i := by
  intro i hi
  have hx := nI_x x
  have hl : x.toBitVec.toNat < 4294967296 := by have := x.toBitVec.isLt; omega
  have hb : ∀ i, bz x i = x.toBitVec.toNat.testBit i := fun _ => rfl
  simp only [hb] at h0 h1 ⊢
  generalize x.toBitVec.toNat = n at *
  have hpos : 0 < 2 ^ k := Nat.pow_pos (by omega)
  have hm0 : n % 2 ^ k = 0 := by
    apply Nat.eq_of_testBit_eq
    intro j
    rw [Nat.testBit_mod_two_pow, Nat.zero_testBit]
    by_cases c : j < k
    · simp [h0 j c]
    · simp [c]
  have hq : n / 2 ^ k % 2 = 1 := by rw [Nat.testBit_eq_decide_div_mod_eq] at h1; exact of_decide_eq_true h1
  have hn : n = 2 ^ k * (n / 2 ^ k) := by have := Nat.div_add_mod n (2 ^ k); omega
  generalize hqq : n / 2 ^ k = q at *
  obtain ⟨m, rfl⟩ : ∃ m, q = 2 * m + 1 := ⟨q / 2, by omega⟩
  have e1 : n - 1 = 2 ^ k * (2 * m) + (2 ^ k - 1) := by rw [hn, Nat.mul_add]; omega
  have e2 : n = 2 ^ k * (2 * m + 1) + 0 := by omega
  have en : 1 ≤ n := by rw [hn, Nat.mul_add]; omega
  have e3 : x - 1 = nI (n - 1) := by rw [hx, show (1 : Int32) = nI 1 from rfl, nI_sb en]
  rw [e3]
  unfold bz
  rw [pk_tn (by omega), e1, Nat.testBit_two_pow_mul_add _ (by omega)]
  by_cases c : i < k
  · rw [if_pos c, if_pos c, Nat.testBit_two_pow_sub_one]; simp [c]
  · rw [if_neg c, if_neg c, e2, Nat.testBit_two_pow_mul_add _ hpos, if_neg c]
    by_cases c2 : i = k
    · rw [if_pos c2, c2, Nat.sub_self, Nat.testBit_zero]; simp
    · rw [if_neg c2]
      obtain ⟨t, ht⟩ : ∃ t, i - k = t + 1 := ⟨i - k - 1, by omega⟩
      rw [ht, Nat.testBit_succ, Nat.testBit_succ]
      congr 1; omega
theorem low_and {x : Int32} {k : Nat} (hk : k < 32) (h1 : bz x k = true) (h0 : ∀ i, i < k → bz x i = false) : ∀ i, i < 32 → bz (x &&& (x - 1)) i = (bz x i && !decide (i = k)) := by
  intro i hi
  rw [bz_and, low_sub hk h1 h0 i hi]
  by_cases c : i < k
  · rw [if_pos c, h0 i c]; simp
  · rw [if_neg c]
    by_cases c2 : i = k
    · simp [c2]
    · simp [c2]
theorem low_msk {x : Int32} {k : Nat} (hk : k < 32) (h1 : bz x k = true) (h0 : ∀ i, i < k → bz x i = false) : (x ^^^ (-1 : Int32)) &&& (x - 1) = iI ((2 ^ k - 1 : Nat)) := by
  apply bz_ext
  intro i hi
  have h2 : 2 ^ k ≤ 2 ^ 31 := Nat.pow_le_pow_right (by omega) (by omega)
  rw [bz_and, bz_not x hi, low_sub hk h1 h0 i hi, bz_nat _ (by omega), Nat.testBit_two_pow_sub_one]
  by_cases c : i < k
  · rw [if_pos c, h0 i c]; simp [c]
  · rw [if_neg c]
    by_cases c2 : i = k
    · simp [c2]
    · simp [c, c2]
def us (x : Int32) (k : Int32) : Int32 := (x.toUInt32 >>> (k.toUInt32 &&& Int32.toUInt32 31)).toInt32
def ntzG (x y : Int32) : Int32 := if x ≤ 16 then (if x ≤ 4 then y + us x 1 else (y + 2) + us (us x 2) 1) else (if us x 4 ≤ 4 then (y + 4) + us (us x 4) 1 else ((y + 4) + 2) + us (us (us x 4) 2) 1)
def ntzF (x : Int32) : Int32 := if 0 < x then (if x ≤ 65536 then (if x ≤ 256 then ntzG x 1 else ntzG (us x 8) (1 + 8)) else (if us x 16 ≤ 256 then ntzG (us x 16) (1 + 16) else ntzG (us (us x 16) 8) ((1 + 16) + 8))) else x &&& 32
theorem ntzF_ok : ∀ k, k < 32 → ntzF (iI ((2 ^ k - 1 : Nat))) = iI (k : Nat) := by decide +kernel
theorem J_ntz49 {d : Nat} {x y : Int32} {R : List PS} {Q : Option AV → List PS → Prop} (h : Q (some (vI (ntzG x y))) R) : cJ6_numberOfTrailingZeros_0f7a4_49 (0, 0, 0, 0) d x y R Q := by
  refine gJ6_numberOfTrailingZeros_0f7a4_49 ?_
  unfold fJ6_numberOfTrailingZeros_0f7a4_49
  unfold ntzG at h
  refine ⟨fun c => ⟨fun c1 => ?_, fun c1 => ?_⟩, fun c => ⟨fun c1 => ?_, fun c1 => ?_⟩⟩
  · rw [if_pos c, if_pos c1] at h; exact h
  · rw [if_pos c, if_neg c1] at h; exact h
  · rw [if_neg c, if_pos (show us x 4 ≤ 4 from c1)] at h; exact h
  · rw [if_neg c, if_neg (show ¬ us x 4 ≤ 4 from c1)] at h; exact h
theorem J_ntz {d k : Nat} {x : Int32} {R : List PS} {Q : Option AV → List PS → Prop} (hk : k < 32) (h1 : bz x k = true) (h0 : ∀ i, i < k → bz x i = false) (h : Q (some (vI (iI (k : Nat)))) R) : Tri 285 d [vI x] R Q := by
  refine enJ6_numberOfTrailingZeros_0f7a4 ?_
  unfold fJ6_numberOfTrailingZeros_0f7a4_0
  rw [low_msk hk h1 h0]
  have e := ntzF_ok k hk
  generalize iI ((2 ^ k - 1 : Nat)) = w at *
  rw [← e] at h
  unfold ntzF at h
  refine ⟨fun c => ⟨fun c1 => ⟨fun c2 => J_ntz49 ?_, fun c2 => J_ntz49 ?_⟩, fun c1 => ⟨fun c2 => J_ntz49 ?_, fun c2 => J_ntz49 ?_⟩⟩, fun c => ?_⟩
  · rw [if_pos c, if_pos c1, if_pos c2] at h; exact h
  · rw [if_pos c, if_pos c1, if_neg c2] at h; exact h
  · rw [if_pos c, if_neg c1, if_pos (show us w 16 ≤ 256 from c2)] at h; exact h
  · rw [if_pos c, if_neg c1, if_neg (show ¬ us w 16 ≤ 256 from c2)] at h; exact h
  · rw [if_neg c] at h; exact h
