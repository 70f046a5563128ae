/-! ===== ROOTS ===== -/
def IsRt (s r : Nat) : Prop := r * r ≤ s ∧ s < (r + 1) * (r + 1)
def rt : Nat → Nat
  | 0 => 0
  | s + 1 => if (rt s + 1) * (rt s + 1) ≤ s + 1 then rt s + 1 else rt s
theorem rt_ok : ∀ s, IsRt s (rt s)
  | 0 => ⟨by decide, by decide⟩
  | s + 1 => by
    have ih := rt_ok s
    unfold rt
    split
    · rename_i c
      refine ⟨c, ?_⟩
      have h1 := ih.2
      have h2 : (rt s + 1) * (rt s + 1) < (rt s + 1 + 1) * (rt s + 1 + 1) := Nat.mul_lt_mul'' (by omega) (by omega)
      omega
    · rename_i c
      exact ⟨Nat.le_succ_of_le ih.1, by omega⟩
theorem IsRt.uniq {s r r' : Nat} (h : IsRt s r) (h' : IsRt s r') : r = r' := by
  rcases Nat.lt_trichotomy r r' with c | c | c
  · have := Nat.mul_le_mul (show r + 1 ≤ r' by omega) (show r + 1 ≤ r' by omega)
    have := h.2; have := h'.1; omega
  · exact c
  · have := Nat.mul_le_mul (show r' + 1 ≤ r by omega) (show r' + 1 ≤ r by omega)
    have := h'.2; have := h.1; omega
theorem rt_eq {s r : Nat} (h : IsRt s r) : rt s = r := (rt_ok s).uniq h
theorem iL_lN (m : Nat) : iL (m : Nat) = lN m := by rw [lN]; show Int64.ofInt _ = Int64.ofNat _; rw [← Int64.ofInt_eq_ofNat]
theorem lN_bv {m : Nat} (hm : m < 18446744073709551616) : (lN m).toBitVec.toNat = m := by
  show (Int64.ofNat m).toBitVec.toNat = m
  rw [Int64.toBitVec_ofNat', BitVec.toNat_ofNat]
  exact Nat.mod_eq_of_lt hm
theorem one_shl : ∀ k, k < 31 → (1 : Int64) <<< ((iI (k : Nat)).toInt64 &&& 63) = iL ((2 ^ k : Nat)) := by decide +kernel
theorem or_bit {r k : Nat} (hr : r % 2 ^ (k + 1) = 0) (hk : k < 31) (hb : r < 4294967296) : iL (r : Nat) ||| ((1 : Int64) <<< ((iI (k : Nat)).toInt64 &&& 63)) = iL ((r + 2 ^ k : Nat)) := by
  have hp : 2 ^ k ≤ 2 ^ 30 := Nat.pow_le_pow_right (by omega) (by omega)
  have hp' : 2 ^ k ≤ 1073741824 := hp
  rw [one_shl k hk, iL_lN, iL_lN, iL_lN]
  apply Int64.toBitVec_inj.mp
  rw [Int64.toBitVec_or]
  apply BitVec.eq_of_toNat_eq
  rw [BitVec.toNat_or, lN_bv (by omega), lN_bv (by omega), lN_bv (by omega)]
  have e : r = (r / 2 ^ (k + 1)) <<< (k + 1) := by
    rw [Nat.shiftLeft_eq]
    have := Nat.div_add_mod r (2 ^ (k + 1))
    rw [hr, Nat.add_zero, Nat.mul_comm] at this
    exact this.symm
  have hlt : 2 ^ k < 2 ^ (k + 1) := Nat.pow_lt_pow_right (by omega) (by omega)
  have := Nat.shiftLeft_add_eq_or_of_lt hlt (r / 2 ^ (k + 1))
  rw [← e] at this
  exact this.symm
theorem C_root {d : Nat} {s : Nat} {x : Int64} {R : List PS} {Q : Option AV → List PS → Prop} (hx : x = iL (s : Nat)) (hs : s < 4611686018427387904) (h : Q (some (vL (iL (rt s : Nat)))) R) : Tri 166 d [vL x] R Q := by
  subst hx
  refine enX11_root ?_
  unfold fX11_root_0
  have key : ∀ k r : Nat, k ≤ 31 → r % 2 ^ k = 0 → r * r ≤ s → s < (r + 2 ^ k) * (r + 2 ^ k) → r + 2 ^ k ≤ 2147483648 → cX11_root_6 (0, 0, 0, 0) d (iL (s : Nat)) (iL (r : Nat)) (iI ((k : Int) - 1)) R Q := by
    intro k
    induction k with
    | zero =>
      intro r _ _ h1 h2 _
      refine gX11_root_6 ?_
      unfold fX11_root_6
      have e : rt s = r := rt_eq ⟨h1, h2⟩
      rw [e] at h
      exact ⟨fun _ => h, fun c => absurd (by decide) c⟩
    | succ k ih =>
      intro r hk hm h1 h2 h3
      have hp : 2 ^ (k + 1) = 2 ^ k * 2 := Nat.pow_succ 2 k
      have hpos : 0 < 2 ^ k := Nat.pow_pos (by omega)
      have hm' : r % 2 ^ k = 0 := Nat.mod_eq_zero_of_dvd (Nat.dvd_trans (Nat.pow_dvd_pow 2 (by omega)) (Nat.dvd_of_mod_eq_zero hm))
      refine gX11_root_6 ?_
      unfold fX11_root_6
      rw [show ((k + 1 : Nat) : Int) - 1 = (k : Nat) by omega, or_bit hm (by omega) (by omega), iL_mul, lcmp_gt]
      have hsq : (r + 2 ^ k) * (r + 2 ^ k) ≤ 2147483648 * 2147483648 := Nat.mul_le_mul (by omega) (by omega)
      rw [show ((r + 2 ^ k : Nat) : Int) * ((r + 2 ^ k : Nat) : Int) = (((r + 2 ^ k) * (r + 2 ^ k) : Nat) : Int) by rw [Int.natCast_mul], iL_lt (by omega) (by omega) (by omega) (by omega), show (0 : Int32) = iI 0 from rfl, iI_lt (by omega) (by omega) (by omega) (by omega), show (-1 : Int32) = iI (-1) from rfl, iI_add]
      refine ⟨fun c => absurd c (by omega), fun _ => ⟨fun c => ?_, fun c => ?_⟩⟩
      · exact ih r (by omega) hm' h1 (by omega) (by omega)
      · refine ih (r + 2 ^ k) (by omega) ?_ (by omega) ?_ (by omega)
        · rw [Nat.add_mod_right]; exact hm'
        · rw [show r + 2 ^ k + 2 ^ k = r + 2 ^ (k + 1) by omega]; exact h2
  exact key 31 0 (by omega) (by decide) (by omega) (by omega) (by omega)
