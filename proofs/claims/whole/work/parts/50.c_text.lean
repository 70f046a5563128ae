/-! ===== the class: TOKENS ===== -/
def sb (c : Int) : Int := if c < 128 then c else c - 256
def cAt (b : Nat → Int) (n k : Nat) : Int := if k < n then b k else 0
def kd (r : Bool) (c : Int) : Int := if ltr c = true then 2 else if dig c = true then 3 else if sgn r c = true then 4 else 1
def OwC (P : PS) : Prop := ∀ i, i < 27 → gB P 0 12 i = iL (p32 (OWN.getD i []))
def TxC (r : Bool) (b : Nat → Int) (n : Nat) (P : PS) : Prop := (gI P 0 11 = if r then iI 1 else iI 0) ∧ gI P 0 1 = iI n ∧ n ≤ 1500 ∧ (∀ i, i < n → gA P 0 0 i = iI (sb (b i)) ∧ 0 ≤ b i ∧ b i < 256) ∧ OwC P
theorem TxC.fr {r : Bool} {b : Nat → Int} {n : Nat} {P P' : PS} {is ls as bs : List Nat} (h : TxC r b n P) (hf : Fr is ls as bs P P') (h1 : 11 ∉ is) (h2 : 1 ∉ is) (h3 : 0 ∉ as) (h4 : 12 ∉ bs) : TxC r b n P' :=
  ⟨by rw [hf.2.1 _ h1]; exact h.1, by rw [hf.2.1 _ h2]; exact h.2.1, h.2.2.1, fun i hi => by rw [hf.2.2.2.1 _ _ h3]; exact h.2.2.2.1 i hi, fun i hi => by rw [hf.2.2.2.2 _ _ h4]; exact h.2.2.2.2 i hi⟩
theorem sb_bd {c : Int} (h0 : 0 ≤ c) (h1 : c < 256) : -128 ≤ sb c ∧ sb c < 128 := by unfold sb; split <;> omega
theorem sb_lt {c : Int} (h : c < 128) : sb c = c := if_pos h
theorem cAt_bd {r : Bool} {b : Nat → Int} {n : Nat} {P : PS} (h : TxC r b n P) (k : Nat) : 0 ≤ cAt b n k ∧ cAt b n k < 256 := by
  unfold cAt; split
  · rename_i q; exact (h.2.2.2.1 k q).2
  · omega
theorem C_byteAt {d : Nat} {r : Bool} {b : Nat → Int} {n k : Nat} {P0 P : PS} {R : List PS} {Q : Option AV → List PS → Prop} {x : Int32} (hx : x = iI k) (ht : TxC r b n P) (hk : k ≤ 100000) (h : Q (some (vI (iI (sb (cAt b n k))))) (P0 :: P :: R)) : Tri 100 d [vR 1 0 0, vI x] (P0 :: P :: R) Q := by
  subst hx
  refine enX9_byteAt ?_
  unfold fX9_byteAt_0
  obtain ⟨-, hs, hl, hb, -⟩ := ht
  have h0 : n ≤ k → iI (sb (cAt b n k)) = (0 : Int32) := fun q => by unfold cAt; rw [if_neg (show ¬ k < n by omega)]; rfl
  refine ⟨fun c => ?_, fun c => ⟨fun c1 => ?_, fun c1 => ⟨fun c2 => ?_, fun c2 => ⟨?_, ?_⟩⟩⟩⟩
  · rw [show (0 : Int32) = iI 0 from rfl, iI_lt (by omega) (by omega) (by omega) (by omega)] at c; omega
  · rw [hs, iI_le (by omega) (by omega) (by omega) (by omega)] at c1
    rw [← h0 (by omega)]; exact h
  · rw [show (1500 : Int32) = iI 1500 from rfl, iI_le (by omega) (by omega) (by omega) (by omega)] at c2
    rw [← h0 (by omega)]; exact h
  · rw [hs, iI_le (by omega) (by omega) (by omega) (by omega)] at c1
    rw [iI_in (by omega) (by omega)]; omega
  · rw [hs, iI_le (by omega) (by omega) (by omega) (by omega)] at c1
    rw [iI_cl (by omega) (by omega), show (k : Int).toNat = k by omega, (hb k (by omega)).1]
    unfold cAt at h
    rw [if_pos (show k < n by omega)] at h
    exact h
theorem C_isBlank {d : Nat} {c : Int} {R : List PS} {Q : Option AV → List PS → Prop} (h0 : 0 ≤ c) (h1 : c < 256) (hy : blk c = true → Q (some (vI (iI 1))) R) (hn : blk c = false → Q (some (vI (iI 0))) R) : Tri 107 d [vI (iI (sb c))] R Q := by
  refine enX9_isBlank ?_
  unfold fX9_isBlank_0
  have hb := sb_bd h0 h1
  rw [show (32 : Int32) = iI 32 from rfl, show (10 : Int32) = iI 10 from rfl, iI_eq (by omega) (by omega) (by omega) (by omega), iI_eq (by omega) (by omega) (by omega) (by omega)]
  refine ⟨fun q => ⟨Or.inr rfl, hy ?_⟩, fun q1 => ⟨fun q2 => ⟨Or.inl rfl, hn ?_⟩, fun q2 => ⟨Or.inr rfl, hy ?_⟩⟩⟩
  all_goals unfold sb at *; simp [blk]; split at * <;> omega
def rsg (c : Int) : Bool := decide (c = 40) || decide (c = 41) || decide (c = 60) || decide (c = 62) || decide (c = 61) || decide (c = 43)
def psg (c : Int) : Bool := decide (c = 59) || decide (c = 45)
def oI (p : Bool) : Int32 := if p then iI 1 else iI 0
theorem oI_z {p : Bool} : oI p = 0 ↔ p = false := by cases p <;> decide
theorem C_so87 {z : Nat × Nat × Nat × Nat} {d : Nat} {r : Bool} {c : Int} {x s : Int32} {P0 P : PS} {R : List PS} {Q : Option AV → List PS → Prop} (hx : x = oI (psg c)) (hs : s = oI (rsg c)) (hr : gI P 0 11 = if r then iI 1 else iI 0) (hl : ltr c = false) (hd : dig c = false) (h : Q (some (vI (iI (kd r c)))) (P0 :: P :: R)) : cX9_sortOf_87 z d x s P0 P R Q := by
  refine gX9_sortOf_87 ?_
  unfold fX9_sortOf_87
  subst hx hs
  have hk : kd r c = if (psg c || (r && rsg c)) = true then 4 else 1 := by unfold kd; rw [if_neg (by simp [hl]), if_neg (by simp [hd])]; rfl
  rw [hk] at h
  rw [hr, show (if r = true then iI 1 else iI 0) = oI r from rfl, oI_z, oI_z, oI_z]
  refine ⟨fun q => ?_, fun q => ⟨fun q1 => ?_, fun q1 => ⟨fun q2 => ?_, fun q2 => ?_⟩⟩⟩
  all_goals simp_all
  all_goals exact h
theorem C_so45 {z : Nat × Nat × Nat × Nat} {d : Nat} {r : Bool} {c : Int} {s : Int32} {P0 P : PS} {R : List PS} {Q : Option AV → List PS → Prop} (h0 : 0 ≤ c) (h1 : c < 256) (hr : gI P 0 11 = if r then iI 1 else iI 0) (hs : s = oI (psg c)) (hl : ltr c = false) (hd : dig c = false) (h : Q (some (vI (iI (kd r c)))) (P0 :: P :: R)) : cX9_sortOf_45 z d (iI (sb c)) s P0 P R Q := by
  refine gX9_sortOf_45 ?_
  unfold fX9_sortOf_45
  have hb := sb_bd h0 h1
  have e : ∀ k : Int, 0 ≤ k → k < 128 → (iI (sb c) = iI k ↔ c = k) := fun k g0 g1 => by
    rw [iI_eq (by omega) (by omega) (by omega) (by omega)]; unfold sb; split <;> omega
  rw [show (40 : Int32) = iI 40 from rfl, show (41 : Int32) = iI 41 from rfl, show (60 : Int32) = iI 60 from rfl, show (62 : Int32) = iI 62 from rfl, show (61 : Int32) = iI 61 from rfl, show (43 : Int32) = iI 43 from rfl, e 40 (by omega) (by omega), e 41 (by omega) (by omega), e 60 (by omega) (by omega), e 62 (by omega) (by omega), e 61 (by omega) (by omega), e 43 (by omega) (by omega)]
  refine ⟨fun q => ?_, fun q1 => ⟨fun q => ?_, fun q2 => ⟨fun q => ?_, fun q3 => ⟨fun q => ?_, fun q4 => ⟨fun q => ?_, fun q5 => ⟨fun q => ?_, fun q => ?_⟩⟩⟩⟩⟩⟩
  all_goals refine C_so87 hs ?_ hr hl hd h
  all_goals simp [rsg, *]; try rfl
theorem C_sortOf {d : Nat} {r : Bool} {c : Int} {P0 P : PS} {R : List PS} {Q : Option AV → List PS → Prop} (h0 : 0 ≤ c) (h1 : c < 256) (hr : gI P 0 11 = if r then iI 1 else iI 0) (h : Q (some (vI (iI (kd r c)))) (P0 :: P :: R)) : Tri 106 d [vR 1 0 0, vI (iI (sb c))] (P0 :: P :: R) Q := by
  refine enX9_sortOf ?_
  unfold fX9_sortOf_0
  have hb := sb_bd h0 h1
  have e : ∀ k : Int, 0 ≤ k → k < 128 → (iI (sb c) = iI k ↔ c = k) := fun k g0 g1 => by
    rw [iI_eq (by omega) (by omega) (by omega) (by omega)]; unfold sb; split <;> omega
  have l1 : iI (sb c) < 97 ↔ sb c < 97 := by rw [show (97 : Int32) = iI 97 from rfl, iI_lt (by omega) (by omega) (by omega) (by omega)]
  have l2 : iI (sb c) < 48 ↔ sb c < 48 := by rw [show (48 : Int32) = iI 48 from rfl, iI_lt (by omega) (by omega) (by omega) (by omega)]
  have l3 : 57 < iI (sb c) ↔ 57 < sb c := by rw [show (57 : Int32) = iI 57 from rfl, iI_lt (by omega) (by omega) (by omega) (by omega)]
  have l4 : 122 < iI (sb c) ↔ 122 < sb c := by rw [show (122 : Int32) = iI 122 from rfl, iI_lt (by omega) (by omega) (by omega) (by omega)]
  rw [l1, l2, l3, l4, show (59 : Int32) = iI 59 from rfl, show (45 : Int32) = iI 45 from rfl, e 59 (by omega) (by omega), e 45 (by omega) (by omega)]
  have key : ltr c = false → dig c = false → (c = 59 → cX9_sortOf_45 (0, 0, 0, 0) d (iI (sb c)) (1 : Int32) P0 P R Q) ∧ (¬ c = 59 → (¬ c = 45 → cX9_sortOf_45 (0, 0, 0, 0) d (iI (sb c)) (0 : Int32) P0 P R Q) ∧ (c = 45 → cX9_sortOf_45 (0, 0, 0, 0) d (iI (sb c)) (1 : Int32) P0 P R Q)) := fun hl hd => by
    refine ⟨fun q => C_so45 h0 h1 hr ?_ hl hd h, fun q => ⟨fun q1 => C_so45 h0 h1 hr ?_ hl hd h, fun q1 => C_so45 h0 h1 hr ?_ hl hd h⟩⟩
    all_goals simp [psg, *]; try rfl
  have hsb : sb c = c ∨ (sb c < 0 ∧ 128 ≤ c) := by unfold sb; split <;> omega
  have nl : ¬ (97 ≤ sb c ∧ sb c ≤ 122) → ltr c = false := fun q => by simp [ltr]; omega
  have nd : ¬ (48 ≤ sb c ∧ sb c ≤ 57) → dig c = false := fun q => by simp [dig]; omega
  refine ⟨fun q => ⟨fun q1 => key (nl (by omega)) (nd (by omega)), fun q1 => ⟨fun q2 => key (nl (by omega)) (nd (by omega)), fun q2 => ?_⟩⟩, fun q => ⟨fun q1 => ⟨fun q2 => key (nl (by omega)) (nd (by omega)), fun q2 => ⟨fun q3 => key (nl (by omega)) (nd (by omega)), fun q3 => absurd q1 (by omega)⟩⟩, fun q1 => ?_⟩⟩
  · have hk : kd r c = 3 := by unfold kd; rw [if_neg (by rw [nl (by omega)]; decide), if_pos (by simp [dig]; omega)]
    rw [hk] at h; exact h
  · have hk : kd r c = 2 := by unfold kd; rw [if_pos (by simp [ltr]; omega)]
    rw [hk] at h; exact h
