/-! ===== bits turned over ===== -/
theorem bt_xor (x : Int32) {i k : Nat} (hi : i < 27) (hk : k < 27) : bt (x ^^^ ((1 : Int32) <<< ((iI i) &&& 31))) (iI k) ↔ (if k = i then ¬ bt x (iI k) else bt x (iI k)) := by
  rw [bt_iff _ hk, bt_iff _ hk, Int32.toBitVec_xor, BitVec.getLsbD_xor, bt_one i hi k hk]
  by_cases c : k = i
  · simp [c]
  · simp [c]
/-- the pixels that a story calls speckless -/
def FpC (j : Nat) (g : Nat → Nat → Bool) (P : PS) : Prop := ∀ c r, c < 16 → r < 16 → (bt (gA P j 3 r) (iI (c : Nat)) ↔ g c r = false)
theorem C_isSpeckless {d j c r : Nat} {g : Nat → Nat → Bool} {P0 P1 P2 P3 P4 P5 P : PS} {R : List PS} {Q : Option AV → List PS → Prop} (hc : c < 16) (hr : r < 16) (hg : FpC j g P) (hy : g c r = true → Q (some (vI (iI 1))) (P0 :: P1 :: P2 :: P3 :: P4 :: P5 :: P :: R)) (hn : g c r = false → Q (some (vI (iI 0))) (P0 :: P1 :: P2 :: P3 :: P4 :: P5 :: P :: R)) : Tri 81 d [vR 6 j 0, vI (iI (c : Nat)), vI (iI (r : Nat))] (P0 :: P1 :: P2 :: P3 :: P4 :: P5 :: P :: R) Q := by
  refine enX7_isSpeckless ?_
  unfold fX7_isSpeckless_0
  have h := hg c r hc hr
  unfold bt at h
  rw [iI_in (by omega) (by omega), iI_cl (by omega) (by omega), show ((r : Nat) : Int).toNat = r by omega, h]
  refine ⟨fun q => ?_, fun _ => ⟨fun q => ?_, fun _ => ⟨by omega, fun q => ⟨Or.inl rfl, hn q⟩, fun q => ⟨Or.inr rfl, hy (by simpa using q)⟩⟩⟩⟩
  · rw [show (0 : Int32) = iI 0 from rfl, iI_lt (by omega) (by omega) (by omega) (by omega)] at q; omega
  · rw [show (16 : Int32) = iI 16 from rfl, iI_le (by omega) (by omega) (by omega) (by omega)] at q; omega
theorem FpC.flip {j c r : Nat} {g : Nat → Nat → Bool} {P : PS} (h : FpC j g P) (hc : c < 16) (hr : r < 16) : FpC j (fun c' r' => if c' = c ∧ r' = r then !g c' r' else g c' r') (sA P j 3 r (gA P j 3 r ^^^ ((1 : Int32) <<< ((iI (c : Nat)) &&& 31)))) := by
  intro c' r' hc' hr'
  rw [gA_sA, if_pos rfl, if_pos rfl]
  by_cases e : r' = r
  · subst e
    rw [if_pos rfl, bt_xor _ (by omega) (by omega), h c' r' hc' hr']
    by_cases e2 : c' = c
    · subst e2; simp
    · simp [e2]
  · rw [if_neg e, h c' r' hc' hr']
    simp [e]
