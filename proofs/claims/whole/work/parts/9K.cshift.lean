/-! ===== SHIFT, the class ===== -/
theorem fsN_g {g : Nat → Nat} {s r : Nat} : ∀ m q, fsN g s m q = some r → g r = s
  | 0, q, h => by cases h
  | m + 1, q, h => by
    unfold fsN at h
    split at h
    · rename_i c; cases h; exact c
    · exact fsN_g m (q + 1) h
theorem skS_lt {y : SY} {z a k : Int} {s q : Nat} {l : List SR} {f : Nat → Int} (hs : s < 32) (h : skS y z a k s l f = some q) : q < nP y z k a.toNat := by
  unfold skS at h
  split at h
  · have g := fsN_g 6 0 h
    have A6 : aP y z k a.toNat ≤ 6 ∧ aP y z k a.toNat ≤ nP y z k a.toNat := m6_le (nP y z k a.toNat)
    by_cases c : q < aP y z k a.toNat
    · omega
    · unfold nmAt at g; rw [if_neg c] at g; omega
  · cases h
theorem skS_e {y : SY} {z a k : Int} {s : Nat} {l : List SR} {f : Nat → Int} (ct : cntS y a k = true) : (if (nmS (qX y z k f a.toNat) (qY y z k f a.toNat) l (f 4) (aP y z k a.toNat)).1.length = 0 then (-1 : Int) else (fsN (fun q => if q < aP y z k a.toNat then ((nmS (qX y z k f a.toNat) (qY y z k f a.toNat) l (f 4) (aP y z k a.toNat)).1.getD 0 (fun _ => 32)) q else 32) s 6 0).elim (-1 : Int) (fun q => ((nth (ptB y z k a.toNat) q (nD (y.2.1 a.toNat) z) : Nat) : Int))) = (skS y z a k s l f).elim (-1 : Int) (fun q => ((ptD y z k a.toNat q : Nat) : Int)) := by
  unfold skS
  by_cases c : (nmS (qX y z k f a.toNat) (qY y z k f a.toNat) l (f 4) (aP y z k a.toNat)).1.length = 0
  · rw [if_pos c, if_neg (fun g => by
      have h1 := (dcd_t.mp g).2.2
      have h2 : (0 : Int) < ((nmS (qX y z k f a.toNat) (qY y z k f a.toNat) l (f 4) (aP y z k a.toNat)).1.length : Nat) := h1
      omega)]
    try rfl
  · have hN : hasN y z a 0 k l f := ⟨ct, Int.le_refl 0, show (0 : Int) < ((nmS (qX y z k f a.toNat) (qY y z k f a.toNat) l (f 4) (aP y z k a.toNat)).1.length : Nat) by omega⟩
    rw [if_neg c, if_pos (dcd_t.mpr hN)]
    try rfl
