/-! ===== END, FAULT, LATER: both sides ===== -/
def endS (a : Int) (n : Nat) : Option Nat := if 0 ≤ a ∧ a ≤ n then some a.toNat else none
theorem M_end {d : Nat} {a : Int} {b : Nat → Int} {n : Nat} {P : PS} {R : List PS} {Q : Option AV → List PS → Prop} (ha : -2147483648 ≤ a) (ha' : a < 2147483648) (ht : TpM b n P) (hy : ∀ m P', endS a n = some m → m ≤ n → Fr [1] [] [] [] P P' → TpM b m P' → Q (some (vI (iI (m : Nat)))) (P' :: R)) (hn : endS a n = none → Q (some (vI (iI (-1)))) (P :: R)) : Tri 173 d [vR 0 0 0, vI (iI a)] (P :: R) Q := by
  refine enX12_end ?_
  unfold fX12_end_0
  have hn15 := ht.2.1
  unfold endS at hy hn
  rw [ht.1, show (0 : Int32) = iI 0 from rfl, iI_lt (by omega) (by omega) (by omega) (by omega), iI_le (by omega) (by omega) (by omega) (by omega)]
  refine ⟨fun c => hn (if_neg (by omega)), fun c => ⟨fun c1 => ?_, fun c1 => hn (if_neg (by omega))⟩⟩
  have := hy a.toNat (sI P 0 1 (iI a)) (if_pos (by omega)) (by omega) (Fr.rf.sI (by simp)) ⟨?_, by omega, fun i hi => ht.2.2 i (by omega)⟩
  · rw [show ((a.toNat : Nat) : Int) = a by omega] at this; exact this
  · show iI a = _
    congr 1; omega
theorem C_end {d : Nat} {a : Int} {b : Nat → Int} {n : Nat} {P0 P P2 P3 P4 P5 P6 P7 P8 P9 P10 P11 P12 : PS} {R : List PS} {Q : Option AV → List PS → Prop} (ha : -2147483648 ≤ a) (ha' : a < 2147483648) (ht : TpC b n P) (hy : ∀ m P', endS a n = some m → m ≤ n → Fr [1] [] [] [] P P' → TpC b m P' → Q (some (vI (iI (m : Nat)))) (P0 :: P' :: P2 :: P3 :: P4 :: P5 :: P6 :: P7 :: P8 :: P9 :: P10 :: P11 :: P12 :: R)) (hn : endS a n = none → Q (some (vI (iI (-1)))) (P0 :: P :: P2 :: P3 :: P4 :: P5 :: P6 :: P7 :: P8 :: P9 :: P10 :: P11 :: P12 :: R)) : Tri 125 d [vR 12 0 0, vI (iI a)] (P0 :: P :: P2 :: P3 :: P4 :: P5 :: P6 :: P7 :: P8 :: P9 :: P10 :: P11 :: P12 :: R) Q := by
  refine enX11_end ?_
  unfold fX11_end_0
  have hn15 := ht.2.1
  unfold endS at hy hn
  rw [ht.1, show (0 : Int32) = iI 0 from rfl, iI_lt (by omega) (by omega) (by omega) (by omega), iI_le (by omega) (by omega) (by omega) (by omega)]
  refine ⟨fun c => hn (if_neg (by omega)), fun c => ⟨fun c1 => ?_, fun c1 => hn (if_neg (by omega))⟩⟩
  have := hy a.toNat (sI P 0 1 (iI a)) (if_pos (by omega)) (by omega) (Fr.rf.sI (by simp)) ⟨?_, by omega, fun i hi => ht.2.2 i (by omega)⟩
  · rw [show ((a.toNat : Nat) : Int) = a by omega] at this; exact this
  · show iI a = _
    congr 1; omega
def faultS (a : Int32) (e : PE) : Int := if a = 0 then e.1 else if a = 1 then e.2 else -1
theorem M_fault {d : Nat} {a : Int32} {e : PE} {P : PS} {R : List PS} {Q : Option AV → List PS → Prop} (h1 : gI P 0 2 = iI e.1) (h2 : gI P 0 3 = iI e.2) (h : Q (some (vI (iI (faultS a e)))) (P :: R)) : Tri 193 d [vR 0 0 0, vI a] (P :: R) Q := by
  refine enX12_fault ?_
  unfold fX12_fault_0
  unfold faultS at h
  refine ⟨fun c => ⟨fun c1 => ?_, fun c1 => ?_⟩, fun c => ?_⟩
  · rw [if_neg c, if_neg c1] at h; exact h
  · rw [if_neg c, if_pos c1] at h; rw [h2]; exact h
  · rw [if_pos c] at h; rw [h1]; exact h
theorem C_fault {d : Nat} {a : Int32} {e : PE} {P0 P P2 P3 P4 P5 P6 P7 P8 P9 P10 P11 P12 : PS} {R : List PS} {Q : Option AV → List PS → Prop} (he : FaC e P) (h : Q (some (vI (iI (faultS a e)))) (P0 :: P :: P2 :: P3 :: P4 :: P5 :: P6 :: P7 :: P8 :: P9 :: P10 :: P11 :: P12 :: R)) : Tri 129 d [vR 12 0 0, vI a] (P0 :: P :: P2 :: P3 :: P4 :: P5 :: P6 :: P7 :: P8 :: P9 :: P10 :: P11 :: P12 :: R) Q := by
  refine enX11_fault ?_
  unfold fX11_fault_0
  unfold faultS at h
  refine ⟨fun c => ?_, fun c => ⟨fun c1 => ?_, fun c1 => ?_⟩⟩
  · rw [if_pos c] at h; rw [he.1]; exact h
  · rw [if_neg c, if_pos c1] at h; rw [he.2]; exact h
  · rw [if_neg c, if_neg c1] at h; exact h
def laterS (a t : Int) : Option Int := if 0 ≤ a ∧ a ≤ 1000 ∧ t + a ≤ 100000 then some (t + a) else none
theorem M_later {d : Nat} {a t : Int} {P : PS} {R : List PS} {Q : Option AV → List PS → Prop} (ha : -2147483648 ≤ a) (ha' : a < 2147483648) (h0 : 0 ≤ t) (h1 : t ≤ 100000) (ht : gI P 0 29 = iI t) (hy : ∀ t', laterS a t = some t' → 0 ≤ t' → t' ≤ 100000 → Q (some (vI (iI t'))) (sI P 0 29 (iI t') :: R)) (hn : laterS a t = none → Q (some (vI (iI (-1)))) (P :: R)) : Tri 197 d [vR 0 0 0, vI (iI a)] (P :: R) Q := by
  refine enX12_later ?_
  unfold fX12_later_0
  unfold laterS at hy hn
  rw [ht, show (0 : Int32) = iI 0 from rfl, show (1000 : Int32) = iI 1000 from rfl, show (100000 : Int32) = iI 100000 from rfl, iI_lt (by omega) (by omega) (by omega) (by omega), iI_lt (by omega) (by omega) (by omega) (by omega), iI_add]
  refine ⟨fun c => hn (if_neg (by omega)), fun c => ⟨fun c1 => hn (if_neg (by omega)), fun c1 => ?_⟩⟩
  rw [iI_le (by omega) (by omega) (by omega) (by omega)]
  exact ⟨fun c2 => hy (t + a) (if_pos (by omega)) (by omega) c2, fun c2 => hn (if_neg (by omega))⟩
theorem C_later {d : Nat} {a t : Int} {P0 P1 P2 P3 P4 P5 P P7 P8 P9 P10 P11 P12 : PS} {R : List PS} {Q : Option AV → List PS → Prop} (ha : -2147483648 ≤ a) (ha' : a < 2147483648) (h0 : 0 ≤ t) (h1 : t ≤ 100000) (ht : gI P 0 5 = iI t) (hy : ∀ t', laterS a t = some t' → 0 ≤ t' → t' ≤ 100000 → Q (some (vI (iI t'))) (P0 :: P1 :: P2 :: P3 :: P4 :: P5 :: sI P 0 5 (iI t') :: P7 :: P8 :: P9 :: P10 :: P11 :: P12 :: R)) (hn : laterS a t = none → Q (some (vI (iI (-1)))) (P0 :: P1 :: P2 :: P3 :: P4 :: P5 :: P :: P7 :: P8 :: P9 :: P10 :: P11 :: P12 :: R)) : Tri 131 d [vR 12 0 0, vI (iI a)] (P0 :: P1 :: P2 :: P3 :: P4 :: P5 :: P :: P7 :: P8 :: P9 :: P10 :: P11 :: P12 :: R) Q := by
  refine enX11_later ?_
  unfold fX11_later_0
  unfold laterS at hy hn
  rw [ht, show (0 : Int32) = iI 0 from rfl, show (1000 : Int32) = iI 1000 from rfl, show (100000 : Int32) = iI 100000 from rfl, iI_lt (by omega) (by omega) (by omega) (by omega), iI_lt (by omega) (by omega) (by omega) (by omega), iI_add]
  refine ⟨fun c => hn (if_neg (by omega)), fun c => ⟨fun c1 => hn (if_neg (by omega)), fun c1 => ?_⟩⟩
  rw [iI_le (by omega) (by omega) (by omega) (by omega)]
  exact ⟨fun c2 => hy (t + a) (if_pos (by omega)) (by omega) c2, fun c2 => hn (if_neg (by omega))⟩
