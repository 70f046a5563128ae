/-! ===== the greatest common divisor, both sides ===== -/
theorem gcd_st (a b : Nat) : Nat.gcd a b = Nat.gcd b (a % b) := by rw [Nat.gcd_comm a b, Nat.gcd_rec b a, Nat.gcd_comm]
theorem M_com28 {d : Nat} {R : List PS} {Q : Option AV → List PS → Prop} (a b : Nat) (ha : a < 9223372036854775808) (hb : b < 9223372036854775808) (h : Q (some (vL (iL (Nat.gcd a b : Nat)))) R) : cX12_common_28 (0, 0, 0, 0) d (iL (a : Nat)) (iL (b : Nat)) R Q := by
  induction b using Nat.strongRecOn generalizing a with
  | _ b ih =>
    refine gX12_common_28 ?_
    unfold fX12_common_28
    rw [lcmp_le, show (0 : Int64) = iL 0 from rfl, iL_le (by omega) (by omega) (by omega) (by omega), iL_eq (by omega) (by omega) (by omega) (by omega)]
    refine ⟨fun c => ?_, fun c => ⟨by omega, ?_⟩⟩
    · have : b = 0 := by omega
      subst this
      rw [Nat.gcd_zero_right] at h; exact h
    · have lt : a % b < b := Nat.mod_lt a (by omega)
      rw [iL_rem (by omega) (by omega) (by omega) (by omega), ← Int.natCast_emod]
      refine ih (a % b) lt b hb (by omega) ?_
      rw [← gcd_st]; exact h
theorem abL {a : Int} (h : -9223372036854775808 < a) (h' : a < 9223372036854775808) : (if (0 : Int64) < iL a then iL a else -iL a) = iL (a.natAbs : Nat) := by
  have z0 : (0 : Int64) < iL a ↔ 0 < a := by rw [show (0 : Int64) = iL 0 from rfl]; exact iL_lt (by omega) (by omega) (by omega) (by omega)
  by_cases c : 0 < a
  · rw [if_pos (z0.mpr c)]; refine congrArg iL ?_; omega
  · rw [if_neg (fun g => c (z0.mp g)), iL_neg]; refine congrArg iL ?_; omega
theorem M_common {d : Nat} {a b : Int} {x y : Int64} {R : List PS} {Q : Option AV → List PS → Prop} (hx : x = iL a) (hy : y = iL b) (ha : -9223372036854775808 < a ∧ a < 9223372036854775808) (hb : -9223372036854775808 < b ∧ b < 9223372036854775808) (h : Q (some (vL (iL (Int.gcd a b : Nat)))) R) : Tri 235 d [vL x, vL y] R Q := by
  subst hx hy
  have e1 : ∀ c : Int, 0 ≤ c → iL c = iL (c.natAbs : Nat) := fun c hc => congrArg iL (by omega)
  have e2 : ∀ c : Int, ¬ 0 ≤ c → -iL c = iL (c.natAbs : Nat) := fun c hc => by rw [iL_neg]; exact congrArg iL (by omega)
  have g : cX12_common_28 (0, 0, 0, 0) d (iL (a.natAbs : Nat)) (iL (b.natAbs : Nat)) R Q := M_com28 _ _ (by omega) (by omega) h
  refine enX12_common ?_
  unfold fX12_common_0
  rw [lcmp_ge, lcmp_ge, show (0 : Int64) = iL 0 from rfl, iL_le (by omega) (by omega) (by omega) (by omega), iL_le (by omega) (by omega) (by omega) (by omega)]
  refine ⟨fun c => ⟨fun c' => ?_, fun c' => ?_⟩, fun c => ⟨fun c' => ?_, fun c' => ?_⟩⟩
  · rw [e1 a c, e1 b c']; exact g
  · rw [e1 a c, e2 b c']; exact g
  · rw [e2 a c, e1 b c']; exact g
  · rw [e2 a c, e2 b c']; exact g
theorem C_com15 {d : Nat} {R : List PS} {Q : Option AV → List PS → Prop} : ∀ (n a b i : Nat), b < 2 ^ n → 2 * n + i ≤ 100 → a < 9223372036854775808 → b < 9223372036854775808 → Q (some (vL (iL (Nat.gcd a b : Nat)))) R → cX11_common_15 (0, 0, 0, 0) d (iL (a : Nat)) (iL (b : Nat)) (iI (i : Nat)) R Q := by
  have nul : ∀ (a i : Nat), i ≤ 100 → Q (some (vL (iL (a : Nat)))) R → cX11_common_15 (0, 0, 0, 0) d (iL (a : Nat)) (iL ((0 : Nat) : Int)) (iI (i : Nat)) R Q := by
    intro a i hi h
    refine gX11_common_15 ?_
    unfold fX11_common_15
    rw [lcmp_eq]
    exact ⟨fun _ => h, fun _ => ⟨fun _ => h, fun c => absurd rfl c⟩⟩
  have stp : ∀ (a b i : Nat), 0 < b → i < 100 → a < 9223372036854775808 → b < 9223372036854775808 → cX11_common_15 (0, 0, 0, 0) d (iL (b : Nat)) (iL ((a % b : Nat))) (iI ((i + 1 : Nat))) R Q → cX11_common_15 (0, 0, 0, 0) d (iL (a : Nat)) (iL (b : Nat)) (iI (i : Nat)) R Q := by
    intro a b i hb hi ha hb' h
    refine gX11_common_15 ?_
    unfold fX11_common_15
    rw [lcmp_eq, show (0 : Int64) = iL 0 from rfl, iL_eq (by omega) (by omega) (by omega) (by omega), show (100 : Int32) = iI 100 from rfl, iI_le (by omega) (by omega) (by omega) (by omega), iL_rem (by omega) (by omega) (by omega) (by omega), ← Int.natCast_emod, show iI (i : Nat) + 1 = iI ((i + 1 : Nat)) from iI_add (i : Nat) 1]
    exact ⟨fun c => absurd c (by omega), fun _ => ⟨fun c => absurd c (by omega), fun c => ⟨c, h⟩⟩⟩
  intro n
  induction n with
  | zero =>
    intro a b i hb hi ha hb' h
    have : b = 0 := by omega
    subst this
    rw [Nat.gcd_zero_right] at h
    exact nul a i (by omega) h
  | succ n ih =>
    intro a b i hb hi ha hb' h
    rcases Nat.eq_zero_or_pos b with c | c
    · subst c
      rw [Nat.gcd_zero_right] at h
      exact nul a i (by omega) h
    · have l1 : a % b < b := Nat.mod_lt a c
      refine stp a b i c (by omega) ha hb' ?_
      rw [gcd_st] at h
      rcases Nat.eq_zero_or_pos (a % b) with c1 | c1
      · rw [c1, Nat.gcd_zero_right] at h
        rw [c1]
        exact nul b (i + 1) (by omega) h
      · have l2 : b % (a % b) < a % b := Nat.mod_lt b c1
        refine stp b (a % b) (i + 1) c1 (by omega) hb' (by omega) ?_
        rw [gcd_st] at h
        refine ih (a % b) (b % (a % b)) (i + 1 + 1) ?_ (by omega) (by omega) (by omega) h
        have hb2 : b < 2 * 2 ^ n := by rw [Nat.pow_succ] at hb; omega
        have : 2 * (b % (a % b)) < b := by
          by_cases c2 : 2 * (a % b) ≤ b
          · omega
          · have : b % (a % b) = b - a % b := by
              rw [Nat.mod_eq_sub_mod (by omega), Nat.mod_eq_of_lt (by omega)]
            omega
        omega
theorem C_common {d : Nat} {a b : Int} {x y : Int64} {R : List PS} {Q : Option AV → List PS → Prop} (hx : x = iL a) (hy : y = iL b) (ha : -9223372036854775808 < a ∧ a < 9223372036854775808) (hb : -1125899906842624 < b ∧ b < 1125899906842624) (h : Q (some (vL (iL (Int.gcd a b : Nat)))) R) : Tri 167 d [vL x, vL y] R Q := by
  subst hx hy
  refine enX11_common ?_
  unfold fX11_common_0
  rw [abL ha.1 ha.2, abL (by omega) (by omega)]
  exact C_com15 50 a.natAbs b.natAbs 0 (show b.natAbs < 1125899906842624 by omega) (by omega) (by omega) (by omega) h
theorem gcd_bd {a b : Int} (ha : -9223372036854775808 < a ∧ a < 9223372036854775808) (hb : -1125899906842624 < b ∧ b < 1125899906842624) : Int.gcd a b < 9223372036854775808 := by
  have e : Int.gcd a b = Nat.gcd a.natAbs b.natAbs := rfl
  rcases Nat.eq_zero_or_pos a.natAbs with c | c
  · rw [e, c, Nat.gcd_zero_left]; omega
  · have := Nat.gcd_le_left b.natAbs c
    omega
theorem C_inLowestTerms {d : Nat} {a b : Int} {v x y : Int64} {R : List PS} {Q : Option AV → List PS → Prop} (hx : x = iL a) (hy : y = iL b) (ha : -9223372036854775808 < a ∧ a < 9223372036854775808) (hb : -1125899906842624 < b ∧ b < 1125899906842624) (hy1 : Int.gcd a b ≠ 0 → Q (some (vL (v / iL (Int.gcd a b : Nat)))) R) (hn : Int.gcd a b = 0 → Q (some (vL v)) R) : Tri 168 (d + 1) [vL v, vL x, vL y] R Q := by
  subst hx hy
  refine enX11_inLowestTerms ?_
  unfold fX11_inLowestTerms_0
  refine C_common rfl rfl ha hb ?_
  dsimp only [rL]
  have gb := gcd_bd ha hb
  rw [lcmp_eq, show (0 : Int64) = iL 0 from rfl, iL_eq (by omega) (by omega) (by omega) (by omega)]
  exact ⟨fun c => ⟨by omega, hy1 (by omega)⟩, fun c => hn (by omega)⟩
