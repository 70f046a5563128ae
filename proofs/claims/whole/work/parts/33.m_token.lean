/-! ===== the Model: TOKENS ===== -/
theorem M_isLetter {d : Nat} {c : Int} {R : List PS} {Q : Option AV → List PS → Prop} (h0 : -1 ≤ c) (h1 : c < 256) (hy : ltr c = true → Q (some (vI (iI 1))) R) (hn : ltr c = false → Q (some (vI (iI 0))) R) : Tri 175 d [vI (iI c)] R Q := by
  refine enX12_isLetter ?_
  unfold fX12_isLetter_0
  simp only [iI_lit, iI_lt (show -2147483648 ≤ c by omega) (show c < 2147483648 by omega) (show (-2147483648 : Int) ≤ 97 by omega) (by omega), iI_lt (show (-2147483648 : Int) ≤ 122 by omega) (by omega) (show -2147483648 ≤ c by omega) (show c < 2147483648 by omega)]
  refine ⟨fun q => ⟨Or.inl trivial, hn ?_⟩, fun q => ⟨fun q' => ⟨Or.inl trivial, hn ?_⟩, fun q' => ⟨Or.inr trivial, hy ?_⟩⟩⟩
  all_goals simp [ltr]; omega
theorem M_isDigit {d : Nat} {c : Int} {R : List PS} {Q : Option AV → List PS → Prop} (h0 : -1 ≤ c) (h1 : c < 256) (hy : dig c = true → Q (some (vI (iI 1))) R) (hn : dig c = false → Q (some (vI (iI 0))) R) : Tri 176 d [vI (iI c)] R Q := by
  refine enX12_isDigit ?_
  unfold fX12_isDigit_0
  simp only [iI_lit, iI_lt (show -2147483648 ≤ c by omega) (show c < 2147483648 by omega) (show (-2147483648 : Int) ≤ 48 by omega) (by omega), iI_lt (show (-2147483648 : Int) ≤ 57 by omega) (by omega) (show -2147483648 ≤ c by omega) (show c < 2147483648 by omega)]
  refine ⟨fun q => ⟨Or.inl trivial, hn ?_⟩, fun q => ⟨fun q' => ⟨Or.inl trivial, hn ?_⟩, fun q' => ⟨Or.inr trivial, hy ?_⟩⟩⟩
  all_goals simp [dig]; omega
theorem eqc {c k : Int} (h0 : -1 ≤ c) (h1 : c < 256) (g0 : 0 ≤ k) (g1 : k < 256) : iI c = iI k ↔ c = k := iI_eq (by omega) (by omega) (by omega) (by omega)
theorem M_isSign {d : Nat} {r : Bool} {c : Int} {P : PS} {R : List PS} {Q : Option AV → List PS → Prop} (h0 : -1 ≤ c) (h1 : c < 256) (hr : gI P 0 10 = if r then iI 1 else iI 0) (hy : sgn r c = true → Q (some (vI (iI 1))) (P :: R)) (hn : sgn r c = false → Q (some (vI (iI 0))) (P :: R)) : Tri 177 d [vR 0 0 0, vI (iI c)] (P :: R) Q := by
  refine enX12_isSign ?_
  unfold fX12_isSign_0
  rw [hr]
  simp only [iI_lit, eqc h0 h1 (show (0 : Int) ≤ 59 by omega) (by omega), eqc h0 h1 (show (0 : Int) ≤ 45 by omega) (by omega), eqc h0 h1 (show (0 : Int) ≤ 40 by omega) (by omega), eqc h0 h1 (show (0 : Int) ≤ 41 by omega) (by omega), eqc h0 h1 (show (0 : Int) ≤ 60 by omega) (by omega), eqc h0 h1 (show (0 : Int) ≤ 62 by omega) (by omega), eqc h0 h1 (show (0 : Int) ≤ 61 by omega) (by omega), eqc h0 h1 (show (0 : Int) ≤ 43 by omega) (by omega)]
  refine ⟨fun q => ⟨Or.inr trivial, hy ?_⟩, fun q1 => ⟨fun q => ⟨Or.inr trivial, hy ?_⟩, fun q2 => ⟨fun q => ⟨Or.inl trivial, hn ?_⟩, fun qr => ⟨fun q => ⟨Or.inr trivial, hy ?_⟩, fun q3 => ⟨fun q => ⟨Or.inr trivial, hy ?_⟩, fun q4 => ⟨fun q => ⟨Or.inr trivial, hy ?_⟩, fun q5 => ⟨fun q => ⟨Or.inr trivial, hy ?_⟩, fun q6 => ⟨fun q => ⟨Or.inr trivial, hy ?_⟩, fun q7 => ⟨fun q8 => ⟨Or.inl trivial, hn ?_⟩, fun q => ⟨Or.inr trivial, hy ?_⟩⟩⟩⟩⟩⟩⟩⟩⟩⟩
  · simp [sgn, q]
  · simp [sgn, q]
  · cases r with
    | true => exact absurd q (by decide)
    | false => simp [sgn, q1, q2]
  all_goals
    have hrt : r = true := by
      cases r with
      | true => rfl
      | false => exact absurd rfl qr
    subst hrt
    simp [sgn, *]
/-- the text that is read: rules or not, its bytes, its length -/
def TxM (r : Bool) (b : Nat → Int) (n : Nat) (P : PS) : Prop := (gI P 0 10 = if r then iI 1 else iI 0) ∧ gI P 0 5 = iI n ∧ n ≤ 1500 ∧ ∀ i, i < n → gA P 0 0 i = iI (b i) ∧ 0 ≤ b i ∧ b i < 256
theorem TxM.fr {r : Bool} {b : Nat → Int} {n : Nat} {P P' : PS} {is ls as bs : List Nat} (h : TxM r b n P) (hf : Fr is ls as bs P P') (h1 : 10 ∉ is) (h2 : 5 ∉ is) (h3 : 0 ∉ as) : TxM r b n P' :=
  ⟨by rw [hf.2.1 _ h1]; exact h.1, by rw [hf.2.1 _ h2]; exact h.2.1, h.2.2.1, fun i hi => by rw [hf.2.2.2.1 _ _ h3]; exact h.2.2.2 i hi⟩
theorem M_here {d : Nat} {r : Bool} {b : Nat → Int} {n q k : Nat} {P : PS} {R : List PS} {Q : Option AV → List PS → Prop} (ht : TxM r b n P) (ha : gI P 0 4 = iI q) (hq : q + k ≤ 100000) (hy : q + k < n → 0 ≤ b (q + k) → b (q + k) < 256 → Q (some (vI (iI (b (q + k))))) (P :: R)) (hn : n ≤ q + k → Q (some (vI (iI (-1)))) (P :: R)) : Tri 174 d [vR 0 0 0, vI (iI k)] (P :: R) Q := by
  refine enX12_here ?_
  unfold fX12_here_0
  obtain ⟨-, hs, hl, hb⟩ := ht
  rw [hs, ha, iI_add, iI_le (by omega) (by omega) (by omega) (by omega)]
  refine ⟨fun c => hn (by omega), fun c => ⟨?_, ?_⟩⟩
  · rw [iI_in (by omega) (by omega)]; omega
  · rw [iI_cl (by omega) (by omega), show ((q : Int) + (k : Int)).toNat = q + k by omega, (hb (q + k) (by omega)).1]
    exact hy (by omega) (hb (q + k) (by omega)).2.1 (hb (q + k) (by omega)).2.2
def srt (t : TK) : Int := if t.1 = 4 then t.2.2.2.1 else t.1
/-- the TOKEN that was read last -/
def TkM (t : TK) (P : PS) : Prop := gI P 0 6 = iI (srt t) ∧ gI P 0 7 = iI t.2.1 ∧ (t.1 = 2 → gI P 0 8 = iI t.2.2.2.1) ∧ (t.1 = 1 → gL P 0 9 = iL (p256 t.2.2.2.2)) ∧ (t.1 ≠ 3 → gI P 0 4 = iI t.2.2.1)
theorem l_shl8 {a c : Int} (ha : 0 ≤ a) (ha' : a < 72057594037927936) (hc : 0 ≤ c) (hc' : c < 256) : (iL a <<< ((8 : Int32).toInt64 &&& 63)) ||| iL c = iL (a * 256 + c) := by
  have e1 : iL a = lN a.toNat := by rw [lN]; show Int64.ofInt a = Int64.ofNat _; rw [← Int64.ofInt_eq_ofNat, Int.toNat_of_nonneg ha]
  have e2 : iL c = lN c.toNat := by rw [lN]; show Int64.ofInt c = Int64.ofNat _; rw [← Int64.ofInt_eq_ofNat, Int.toNat_of_nonneg hc]
  have e3 : iL (a * 256 + c) = lN (a.toNat * 256 + c.toNat) := by
    rw [lN]; show Int64.ofInt _ = Int64.ofNat _; rw [← Int64.ofInt_eq_ofNat]; congr 1; omega
  rw [e1, e2, e3]
  have hA : a.toNat < 72057594037927936 := by omega
  have hC : c.toNat < 256 := by omega
  generalize a.toNat = A at *
  generalize c.toNat = C at *
  rw [show ((8 : Int32).toInt64 &&& 63) = (8 : Int64) by decide]
  apply Int64.toBitVec_inj.mp
  rw [Int64.toBitVec_or, Int64.toBitVec_shiftLeft]
  apply BitVec.eq_of_toNat_eq
  have s8 : ((8 : Int64).toBitVec.smod 64) = 8#64 := by decide
  rw [s8, BitVec.toNat_or]
  have t1 : ∀ m : Nat, m < 18446744073709551616 → (lN m).toBitVec.toNat = m := by
    intro m hm
    show (Int64.ofNat m).toBitVec.toNat = m
    rw [Int64.toBitVec_ofNat', BitVec.toNat_ofNat]
    exact Nat.mod_eq_of_lt hm
  rw [t1 C (by omega), t1 (A * 256 + C) (by omega)]
  have t2 : ((lN A).toBitVec <<< 8#64).toNat = A <<< 8 := by
    rw [BitVec.shiftLeft_eq', BitVec.toNat_shiftLeft, t1 A (by omega)]
    show A <<< 8 % 2 ^ 64 = A <<< 8
    rw [Nat.shiftLeft_eq]
    exact Nat.mod_eq_of_lt (by omega)
  rw [t2, ← Nat.shiftLeft_add_eq_or_of_lt (show C < 2 ^ 8 by omega), Nat.shiftLeft_eq]
