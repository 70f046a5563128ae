/-! ===== LIAR, both sides ===== -/
def abZ (v : Int) : Int := if v < 0 then -v else v
theorem abZ_nn (v : Int) : 0 ≤ abZ v := by unfold abZ; split <;> omega
theorem abZ_le {v B : Int} (h : -B ≤ v) (h' : v ≤ B) : abZ v ≤ B := by unfold abZ; split <;> omega
theorem abs_l {v : Int} (h : -9223372036854775808 < v) (h' : v < 9223372036854775808) : (if 0 < iL v then iL v else -iL v) = iL (abZ v) := by
  simp (disch := omega) only [show (0 : Int64) = iL 0 from rfl, iL_lt, iL_neg]
  unfold abZ
  split <;> split
  · omega
  · rfl
  · rfl
  · congr 1; omega
theorem abs_i {v : Int} (h : -2147483648 < v) (h' : v < 2147483648) : (if 0 ≤ iI v then iI v else 0 - iI v) = iI (abZ v) := by
  simp (disch := omega) only [show (0 : Int32) = iI 0 from rfl, iI_le, iI_sub]
  unfold abZ
  split <;> split
  · omega
  · rfl
  · congr 1; omega
  · omega
theorem M_much {d : Nat} {v : Int} {x : Int32} {R : List PS} {Q : Option AV → List PS → Prop} (hx : x = iI v) (h0 : -2147483648 < v) (h1 : v < 2147483648) (h : Q (some (vI (iI (abZ v)))) R) : Tri 219 d [vI x] R Q := by
  subst hx
  refine enX12_much ?_
  unfold fX12_much_0
  simp (disch := omega) only [iI_lit, iI_le, iI_neg]
  unfold abZ at h
  refine ⟨fun c => ?_, fun c => ?_⟩
  · rw [if_neg (by omega)] at h; exact h
  · rw [if_pos (by omega)] at h; exact h
theorem M_sized {d : Nat} {v : Int} {x : Int64} {R : List PS} {Q : Option AV → List PS → Prop} (hx : x = iL v) (h0 : -9223372036854775808 < v) (h1 : v < 9223372036854775808) (h : Q (some (vL (iL (abZ v)))) R) : Tri 220 d [vL x] R Q := by
  subst hx
  refine enX12_sized ?_
  unfold fX12_sized_0
  rw [lcmp_ge, show (0 : Int64) = iL 0 from rfl, iL_le (by omega) (by omega) (by omega) (by omega), iL_neg]
  unfold abZ at h
  refine ⟨fun c => ?_, fun c => ?_⟩
  · rw [if_neg (by omega)] at h; exact h
  · rw [if_pos (by omega)] at h; exact h
def liarS (a b c : Int) : Int := if a = b ∧ b = c then -1 else if abZ (a - b) ≤ abZ (a - c) ∧ abZ (a - b) ≤ abZ (b - c) then 2 else if abZ (a - c) ≤ abZ (b - c) then 1 else 0
theorem M_liar {d : Nat} {a b c : Int} {P : PS} {R : List PS} {Q : Option AV → List PS → Prop} (ha : -2147483648 ≤ a ∧ a < 2147483648) (hb : -2147483648 ≤ b ∧ b < 2147483648) (hc : -2147483648 ≤ c ∧ c < 2147483648) (h : Q (some (vI (iI (liarS a b c)))) (P :: R)) : Tri 255 (d + 1) [vR 0 0 0, vI (iI a), vI (iI b), vI (iI c)] (P :: R) Q := by
  have go : ¬ (a = b ∧ b = c) → cX12_liar_12 (0, 0, 0, 0) d (iI a) (iI b) (iI c) (P :: R) Q := by
    intro hne
    unfold liarS at h
    rw [if_neg hne] at h
    refine gX12_liar_12 ?_
    unfold fX12_liar_12
    simp (disch := omega) only [iI_l, iL_sub]
    refine M_sized rfl (by omega) (by omega) ?_
    dsimp only [rL]
    refine M_sized rfl (by omega) (by omega) ?_
    dsimp only [rL]
    refine M_sized rfl (by omega) (by omega) ?_
    dsimp only [rL]
    have h1 := abZ_nn (a - b); have h2 := abZ_nn (a - c); have h3 := abZ_nn (b - c)
    have k1 : abZ (a - b) ≤ 4294967296 := abZ_le (by omega) (by omega)
    have k2 : abZ (a - c) ≤ 4294967296 := abZ_le (by omega) (by omega)
    have k3 : abZ (b - c) ≤ 4294967296 := abZ_le (by omega) (by omega)
    rw [lcmp_gt, lcmp_gt, lcmp_gt, iL_lt (by omega) (by omega) (by omega) (by omega), iL_lt (by omega) (by omega) (by omega) (by omega), iL_lt (by omega) (by omega) (by omega) (by omega)]
    refine ⟨fun q1 => ⟨fun q2 => ?_, fun q2 => ?_⟩, fun q1 => ⟨fun q2 => ⟨fun q3 => ?_, fun q3 => ?_⟩, fun q2 => ?_⟩⟩
    · rw [if_neg (by omega), if_neg (by omega)] at h; exact h
    · rw [if_neg (by omega), if_pos (by omega)] at h; exact h
    · rw [if_neg (by omega), if_neg (by omega)] at h; exact h
    · rw [if_neg (by omega), if_pos (by omega)] at h; exact h
    · rw [if_pos (by omega)] at h; exact h
  refine enX12_liar ?_
  unfold fX12_liar_0
  simp (disch := omega) only [iI_eq]
  refine ⟨fun q => go (fun g => q g.1), fun q => ⟨fun q1 => go (fun g => q1 g.2), fun q1 => ?_⟩⟩
  unfold liarS at h
  rw [if_pos ⟨q, q1⟩] at h; exact h
theorem C_liar {d : Nat} {a b c : Int} {R : List PS} {Q : Option AV → List PS → Prop} (ha : -2147483648 ≤ a ∧ a < 2147483648) (hb : -2147483648 ≤ b ∧ b < 2147483648) (hc : -2147483648 ≤ c ∧ c < 2147483648) (h : Q (some (vI (iI (liarS a b c)))) R) : Tri 148 d [vR 12 0 0, vI (iI a), vI (iI b), vI (iI c)] R Q := by
  have go : ¬ (a = b ∧ b = c) → cX11_liar_12 (0, 0, 0, 0) d (iI a) (iI b) (iI c) R Q := by
    intro hne
    unfold liarS at h
    rw [if_neg hne] at h
    refine gX11_liar_12 ?_
    unfold fX11_liar_12
    simp (disch := omega) only [iI_l, iL_sub]
    rw [abs_l (v := a - b) (by omega) (by omega), abs_l (v := a - c) (by omega) (by omega), abs_l (v := b - c) (by omega) (by omega)]
    have h1 := abZ_nn (a - b); have h2 := abZ_nn (a - c); have h3 := abZ_nn (b - c)
    have k1 : abZ (a - b) ≤ 4294967296 := abZ_le (by omega) (by omega)
    have k2 : abZ (a - c) ≤ 4294967296 := abZ_le (by omega) (by omega)
    have k3 : abZ (b - c) ≤ 4294967296 := abZ_le (by omega) (by omega)
    rw [lcmp_gt, lcmp_gt, lcmp_gt, iL_lt (by omega) (by omega) (by omega) (by omega), iL_lt (by omega) (by omega) (by omega) (by omega), iL_lt (by omega) (by omega) (by omega) (by omega)]
    refine ⟨fun q1 => ⟨fun q2 => ?_, fun q2 => ?_⟩, fun q1 => ⟨fun q2 => ⟨fun q3 => ?_, fun q3 => ?_⟩, fun q2 => ?_⟩⟩
    · rw [if_neg (by omega), if_neg (by omega)] at h; exact h
    · rw [if_neg (by omega), if_pos (by omega)] at h; exact h
    · rw [if_neg (by omega), if_neg (by omega)] at h; exact h
    · rw [if_neg (by omega), if_pos (by omega)] at h; exact h
    · rw [if_pos (by omega)] at h; exact h
  refine enX11_liar ?_
  unfold fX11_liar_0
  simp (disch := omega) only [iI_eq]
  refine ⟨fun q => go (fun g => q g.1), fun q => ⟨fun q1 => go (fun g => q1 g.2), fun q1 => ?_⟩⟩
  unfold liarS at h
  rw [if_pos ⟨q, q1⟩] at h; exact h
/-! ===== the Model's ROOT ===== -/
theorem M_root {d : Nat} {s : Nat} {x : Int64} {R : List PS} {Q : Option AV → List PS → Prop} (hx : x = iL (s : Nat)) (hs : s < 9000000000000000000) (h : Q (some (vL (iL (rt s : Nat)))) R) : Tri 212 d [vL x] R Q := by
  subst hx
  refine enX12_root ?_
  unfold fX12_root_0
  have key : ∀ m lo hi : Nat, hi - lo ≤ m → lo ≤ hi → hi ≤ 3000000000 → lo * lo ≤ s → s < (hi + 1) * (hi + 1) → cX12_root_7 (0, 0, 0, 0) d (iL (s : Nat)) (iL (lo : Nat)) (iL (hi : Nat)) R Q := by
    intro m
    induction m with
    | zero =>
      intro lo hi hm hle hb h1 h2
      have e : lo = hi := by omega
      subst e
      refine gX12_root_7 ?_
      unfold fX12_root_7
      rw [lcmp_ge, iL_le (by omega) (by omega) (by omega) (by omega)]
      refine ⟨fun _ => ?_, fun c => absurd (by omega) c⟩
      rw [rt_eq ⟨h1, h2⟩] at h; exact h
    | succ m ih =>
      intro lo hi hm hle hb h1 h2
      refine gX12_root_7 ?_
      unfold fX12_root_7
      rw [lcmp_ge, iL_le (by omega) (by omega) (by omega) (by omega)]
      refine ⟨fun c => ?_, fun c => ⟨by decide, ?_⟩⟩
      · have e : lo = hi := by omega
        subst e
        rw [rt_eq ⟨h1, h2⟩] at h; exact h
      · rw [show (1 : Int64) = iL 1 from rfl, show (2 : Int64) = iL 2 from rfl, iL_add, iL_add, iL_div (by omega) (by omega) (by omega) (by omega), show ((lo : Nat) + (hi : Nat) + 1 : Int) / 2 = (((lo + hi + 1) / 2 : Nat) : Int) by omega]
        generalize hq : (lo + hi + 1) / 2 = q
        have hq1 : lo < q ∧ q ≤ hi := by omega
        have hsq : q * q ≤ 3000000000 * 3000000000 := Nat.mul_le_mul (by omega) (by omega)
        rw [iL_mul, show ((q : Nat) : Int) * (q : Nat) = ((q * q : Nat) : Int) by rw [Int.natCast_mul], lcmp_gt, iL_lt (by omega) (by omega) (by omega) (by omega), iL_sub]
        refine ⟨fun c1 => ?_, fun c1 => ?_⟩
        · rw [show ((q : Nat) : Int) - 1 = ((q - 1 : Nat) : Int) by omega]
          refine ih lo (q - 1) (by omega) (by omega) (by omega) h1 ?_
          rw [show q - 1 + 1 = q by omega]; omega
        · exact ih q hi (by omega) (by omega) (by omega) (by omega) h2
  exact key 3000000000 0 3000000000 (by omega) (by omega) (by omega) (by omega) (by omega)
theorem M_lengthOf {d : Nat} {a b : Int} {x y : Int32} {R : List PS} {Q : Option AV → List PS → Prop} (hx : x = iI a) (hy : y = iI b) (ha : -100000 ≤ a ∧ a ≤ 100000) (hb : -100000 ≤ b ∧ b ≤ 100000) (h : Q (some (vI (iI (rt (a * a + b * b).toNat : Nat)))) R) : Tri 213 (d + 1) [vI x, vI y] R Q := by
  subst hx hy
  refine enX12_lengthOf ?_
  unfold fX12_lengthOf_0
  have b1 := sq_bd (a := a) (B := 100000) ha.1 ha.2
  have b2 := sq_bd (a := b) (B := 100000) hb.1 hb.2
  simp (disch := omega) only [iI_l, iL_mul, iL_add]
  refine M_root (s := (a * a + b * b).toNat) (by congr 1; omega) (by omega) ?_
  dsimp only [rL]
  rw [iL_i]; exact h
/-! ===== IMAGE and BACK: copies ===== -/
def Blk (f g h : Nat → Int32) (o n : Nat) : Prop := ∀ i, f i = if o ≤ i ∧ i < o + n then g (i - o) else h i
theorem Blk.z (h : Nat → Int32) (g : Nat → Int32) (o : Nat) : Blk h g h o 0 := fun i => by rw [if_neg (by omega)]
theorem Blk.s {f f' g h : Nat → Int32} {o n : Nat} (H : Blk f g h o n) (e : ∀ i, f' i = if i = o + n then g n else f i) : Blk f' g h o (n + 1) := fun i => by
  rw [e i]
  by_cases c : i = o + n
  · rw [if_pos c, if_pos (by omega)]; congr 1; omega
  · rw [if_neg c, H i]
    by_cases c1 : o ≤ i ∧ i < o + n
    · rw [if_pos c1, if_pos (by omega)]
    · rw [if_neg c1, if_neg (by omega)]
theorem M_isBox {d : Nat} {a : Int} {R : List PS} {Q : Option AV → List PS → Prop} (ha : -2147483648 ≤ a ∧ a < 2147483648) (h : Q (some (vI (oI (decide (0 ≤ a ∧ a < 3))))) R) : Tri 281 d [vI (iI a)] R Q := by
  refine enX12_isBox ?_
  unfold fX12_isBox_0
  simp (disch := omega) only [iI_lit, iI_lt, iI_le]
  refine ⟨fun c => ⟨Or.inl trivial, ?_⟩, fun c => ⟨fun c1 => ⟨Or.inl trivial, ?_⟩, fun c1 => ⟨Or.inr trivial, ?_⟩⟩⟩
  · rw [decide_eq_false (by omega)] at h; exact h
  · rw [decide_eq_false (by omega)] at h; exact h
  · rw [decide_eq_true (by omega)] at h; exact h
theorem M_image99 {d k : Nat} {P : PS} {R : List PS} {Q : Option AV → List PS → Prop} (hk : k < 3) (hz : ∀ i, i < 256 → gA P 0 27 i = 0 ∨ gA P 0 27 i = 1) (h : ∀ P', Blk (gA P' 0 88) (gA P 0 27) (gA P 0 88) (256 * k) 256 → Fr [] [] [88] [] P P' → Q (some (vI (gI P' 0 28))) ((sA (sA P' 0 92 k (gI P' 0 28)) 0 93 k (gI P' 0 29)) :: R)) : cX12_image_99 (0, 0, 0, 0) d (iI (k : Nat)) 0 P R Q := by
  have key : ∀ m j : Nat, ∀ A : PS, j + m = 256 → Blk (gA A 0 88) (gA P 0 27) (gA P 0 88) (256 * k) j → Fr [] [] [88] [] P A → cX12_image_99 (0, 0, 0, 0) d (iI (k : Nat)) (iI (j : Nat)) A R Q := by
    intro m
    induction m with
    | zero =>
      intro j A hj b0 f
      have ej : j = 256 := by omega
      subst ej
      refine gX12_image_99 ?_
      unfold fX12_image_99
      simp (disch := omega) only [iI_lit, iI_le, iI_in, iI_cl, Int.toNat_natCast]
      refine ⟨fun _ => ⟨by omega, by omega, h A b0 f⟩, fun c => absurd (by omega) c⟩
    | succ m ih =>
      intro j A hj b0 f
      refine gX12_image_99 ?_
      unfold fX12_image_99
      simp (disch := omega) only [iI_lit, iI_le, iI_in, iI_cl, iI_mul, iI_add, Int.toNat_natCast]
      rw [show (256 * ((k : Nat) : Int) + (j : Nat)).toNat = 256 * k + j by omega]
      refine ⟨fun c => absurd c (by omega), fun _ => ⟨by omega, by omega, ?_, ih (j + 1) _ (by omega) ?_ ?_⟩⟩
      · have e : gA A 0 27 j = gA P 0 27 j := f.2.2.2.1 _ _ (by simp)
        have q := hz j (by omega)
        rw [e]; exact q
      · refine b0.s (fun i => ?_)
        have e : gA A 0 27 j = gA P 0 27 j := f.2.2.2.1 _ _ (by simp)
        simp only [gI_sI, gI_sL, gI_sA, gI_sB, gI_sO, gI_sR, gI_sW, gL_sI, gL_sL, gL_sA, gL_sB, gL_sO, gL_sR, gL_sW, gA_sI, gA_sL, gA_sA, gA_sB, gA_sO, gA_sR, gB_sI, gB_sL, gB_sA, gB_sB, gB_sO, gB_sR, gB_sW, gO_sI, gO_sL, gO_sA, gO_sB, gO_sO, gO_sR, gO_sW, gR_sI, gR_sL, gR_sA, gR_sB, gR_sO, gR_sR, gR_sW, gN_sI, gN_sL, gN_sA, gN_sB, gN_sO, gN_sR, gN_sW, if_true, if_false, Nat.reduceEqDiff, reduceIte]
        by_cases c : i = 256 * k + j
        · simp only [if_pos c, e]
        · simp only [if_neg c]
      · exact f.sA (by simp)
  exact key 256 0 P (by omega) (Blk.z _ _ _) Fr.rf
theorem M_image51 {d k : Nat} {P : PS} {R : List PS} {Q : Option AV → List PS → Prop} (hk : k < 3) (h : ∀ P', Blk (gA P' 0 90) (gA P 0 25) (gA P 0 90) (12 * k) 12 → Blk (gA P' 0 91) (gA P 0 26) (gA P 0 91) (12 * k) 12 → Fr [] [] [90, 91] [] P P' → cX12_image_99 (0, 0, 0, 0) d (iI (k : Nat)) 0 P' R Q) : cX12_image_51 (0, 0, 0, 0) d (iI (k : Nat)) 0 P R Q := by
  have key : ∀ m j : Nat, ∀ A : PS, j + m = 12 → Blk (gA A 0 90) (gA P 0 25) (gA P 0 90) (12 * k) j → Blk (gA A 0 91) (gA P 0 26) (gA P 0 91) (12 * k) j → Fr [] [] [90, 91] [] P A → cX12_image_51 (0, 0, 0, 0) d (iI (k : Nat)) (iI (j : Nat)) A R Q := by
    intro m
    induction m with
    | zero =>
      intro j A hj b0 b1 f
      have ej : j = 12 := by omega
      subst ej
      refine gX12_image_51 ?_
      unfold fX12_image_51
      simp (disch := omega) only [iI_lit, iI_le, iI_in, iI_cl, Int.toNat_natCast]
      refine ⟨fun _ => h A b0 b1 f, fun c => absurd (by omega) c⟩
    | succ m ih =>
      intro j A hj b0 b1 f
      refine gX12_image_51 ?_
      unfold fX12_image_51
      simp (disch := omega) only [iI_lit, iI_le, iI_in, iI_cl, iI_mul, iI_add, Int.toNat_natCast]
      rw [show (12 * ((k : Nat) : Int) + (j : Nat)).toNat = 12 * k + j by omega]
      refine ⟨fun c => absurd c (by omega), fun _ => ⟨by omega, by omega, by omega, by omega, ih (j + 1) _ (by omega) ?_ ?_ ?_⟩⟩
      · refine b0.s (fun i => ?_)
        have e : gA A 0 25 j = gA P 0 25 j := f.2.2.2.1 _ _ (by simp)
        simp only [gI_sI, gI_sL, gI_sA, gI_sB, gI_sO, gI_sR, gI_sW, gL_sI, gL_sL, gL_sA, gL_sB, gL_sO, gL_sR, gL_sW, gA_sI, gA_sL, gA_sA, gA_sB, gA_sO, gA_sR, gB_sI, gB_sL, gB_sA, gB_sB, gB_sO, gB_sR, gB_sW, gO_sI, gO_sL, gO_sA, gO_sB, gO_sO, gO_sR, gO_sW, gR_sI, gR_sL, gR_sA, gR_sB, gR_sO, gR_sR, gR_sW, gN_sI, gN_sL, gN_sA, gN_sB, gN_sO, gN_sR, gN_sW, if_true, if_false, Nat.reduceEqDiff, reduceIte]
        by_cases c : i = 12 * k + j
        · simp only [if_pos c, e]
        · simp only [if_neg c]
      · refine b1.s (fun i => ?_)
        have e : gA A 0 26 j = gA P 0 26 j := f.2.2.2.1 _ _ (by simp)
        simp only [gI_sI, gI_sL, gI_sA, gI_sB, gI_sO, gI_sR, gI_sW, gL_sI, gL_sL, gL_sA, gL_sB, gL_sO, gL_sR, gL_sW, gA_sI, gA_sL, gA_sA, gA_sB, gA_sO, gA_sR, gB_sI, gB_sL, gB_sA, gB_sB, gB_sO, gB_sR, gB_sW, gO_sI, gO_sL, gO_sA, gO_sB, gO_sO, gO_sR, gO_sW, gR_sI, gR_sL, gR_sA, gR_sB, gR_sO, gR_sR, gR_sW, gN_sI, gN_sL, gN_sA, gN_sB, gN_sO, gN_sR, gN_sW, if_true, if_false, Nat.reduceEqDiff, reduceIte]
        by_cases c : i = 12 * k + j
        · simp only [if_pos c, e]
        · simp only [if_neg c]
      · exact (f.sA (by simp)).sA (by simp)
  exact key 12 0 P (by omega) (Blk.z _ _ _) (Blk.z _ _ _) Fr.rf
theorem M_image18 {d k : Nat} {P : PS} {R : List PS} {Q : Option AV → List PS → Prop} (hk : k < 3) (h : ∀ P', Blk (gA P' 0 89) (gA P 0 23) (gA P 0 89) (3072 * k) 3072 → Fr [] [] [89] [] P P' → cX12_image_51 (0, 0, 0, 0) d (iI (k : Nat)) 0 P' R Q) : cX12_image_18 (0, 0, 0, 0) d (iI (k : Nat)) 0 P R Q := by
  have key : ∀ m j : Nat, ∀ A : PS, j + m = 3072 → Blk (gA A 0 89) (gA P 0 23) (gA P 0 89) (3072 * k) j → Fr [] [] [89] [] P A → cX12_image_18 (0, 0, 0, 0) d (iI (k : Nat)) (iI (j : Nat)) A R Q := by
    intro m
    induction m with
    | zero =>
      intro j A hj b0 f
      have ej : j = 3072 := by omega
      subst ej
      refine gX12_image_18 ?_
      unfold fX12_image_18
      simp (disch := omega) only [iI_lit, iI_le, iI_in, iI_cl, Int.toNat_natCast]
      refine ⟨fun _ => h A b0 f, fun c => absurd (by omega) c⟩
    | succ m ih =>
      intro j A hj b0 f
      refine gX12_image_18 ?_
      unfold fX12_image_18
      simp (disch := omega) only [iI_lit, iI_le, iI_in, iI_cl, iI_mul, iI_add, Int.toNat_natCast]
      rw [show (3072 * ((k : Nat) : Int) + (j : Nat)).toNat = 3072 * k + j by omega]
      refine ⟨fun c => absurd c (by omega), fun _ => ⟨by omega, by omega, ih (j + 1) _ (by omega) ?_ ?_⟩⟩
      · refine b0.s (fun i => ?_)
        have e : gA A 0 23 j = gA P 0 23 j := f.2.2.2.1 _ _ (by simp)
        simp only [gI_sI, gI_sL, gI_sA, gI_sB, gI_sO, gI_sR, gI_sW, gL_sI, gL_sL, gL_sA, gL_sB, gL_sO, gL_sR, gL_sW, gA_sI, gA_sL, gA_sA, gA_sB, gA_sO, gA_sR, gB_sI, gB_sL, gB_sA, gB_sB, gB_sO, gB_sR, gB_sW, gO_sI, gO_sL, gO_sA, gO_sB, gO_sO, gO_sR, gO_sW, gR_sI, gR_sL, gR_sA, gR_sB, gR_sO, gR_sR, gR_sW, gN_sI, gN_sL, gN_sA, gN_sB, gN_sO, gN_sR, gN_sW, if_true, if_false, Nat.reduceEqDiff, reduceIte]
        by_cases c : i = 3072 * k + j
        · simp only [if_pos c, e]
        · simp only [if_neg c]
      · exact f.sA (by simp)
  exact key 3072 0 P (by omega) (Blk.z _ _ _) Fr.rf
theorem M_back101 {d k : Nat} {P : PS} {R : List PS} {Q : Option AV → List PS → Prop} (hk : k < 3) (hz : ∀ i, i < 256 → gA P 0 88 (256 * k + i) = 0 ∨ gA P 0 88 (256 * k + i) = 1) (h : ∀ P', Blk (gA P' 0 27) (fun i => gA P 0 88 (256 * k + i)) (gA P 0 27) 0 256 → Fr [] [] [27] [] P P' → Q (some (vI (gA P' 0 92 k))) ((sI (sI P' 0 28 (gA P' 0 92 k)) 0 29 (gA P' 0 93 k)) :: R)) : cX12_back_101 (0, 0, 0, 0) d (iI (k : Nat)) 0 P R Q := by
  have key : ∀ m j : Nat, ∀ A : PS, j + m = 256 → Blk (gA A 0 27) (fun i => gA P 0 88 (256 * k + i)) (gA P 0 27) 0 j → Fr [] [] [27] [] P A → cX12_back_101 (0, 0, 0, 0) d (iI (k : Nat)) (iI (j : Nat)) A R Q := by
    intro m
    induction m with
    | zero =>
      intro j A hj b0 f
      have ej : j = 256 := by omega
      subst ej
      refine gX12_back_101 ?_
      unfold fX12_back_101
      simp (disch := omega) only [iI_lit, iI_le, iI_in, iI_cl, Int.toNat_natCast]
      refine ⟨fun _ => ⟨by omega, by omega, h A b0 f⟩, fun c => absurd (by omega) c⟩
    | succ m ih =>
      intro j A hj b0 f
      refine gX12_back_101 ?_
      unfold fX12_back_101
      simp (disch := omega) only [iI_lit, iI_le, iI_in, iI_cl, iI_mul, iI_add, Int.toNat_natCast]
      rw [show (256 * ((k : Nat) : Int) + (j : Nat)).toNat = 256 * k + j by omega]
      refine ⟨fun c => absurd c (by omega), fun _ => ⟨by omega, by omega, ?_, ih (j + 1) _ (by omega) ?_ ?_⟩⟩
      · have e : gA A 0 88 (256 * k + j) = gA P 0 88 (256 * k + j) := f.2.2.2.1 _ _ (by simp)
        have q := hz j (by omega)
        rw [e]; exact q
      · refine b0.s (fun i => ?_)
        have e : gA A 0 88 (256 * k + j) = gA P 0 88 (256 * k + j) := f.2.2.2.1 _ _ (by simp)
        simp only [gI_sI, gI_sL, gI_sA, gI_sB, gI_sO, gI_sR, gI_sW, gL_sI, gL_sL, gL_sA, gL_sB, gL_sO, gL_sR, gL_sW, gA_sI, gA_sL, gA_sA, gA_sB, gA_sO, gA_sR, gB_sI, gB_sL, gB_sA, gB_sB, gB_sO, gB_sR, gB_sW, gO_sI, gO_sL, gO_sA, gO_sB, gO_sO, gO_sR, gO_sW, gR_sI, gR_sL, gR_sA, gR_sB, gR_sO, gR_sR, gR_sW, gN_sI, gN_sL, gN_sA, gN_sB, gN_sO, gN_sR, gN_sW, if_true, if_false, Nat.reduceEqDiff, reduceIte]
        rw [show 0 + j = j by omega]
        by_cases c : i = j
        · simp only [if_pos c, e]
        · simp only [if_neg c]
      · exact f.sA (by simp)
  exact key 256 0 P (by omega) (Blk.z _ _ _) Fr.rf
theorem M_back53 {d k : Nat} {P : PS} {R : List PS} {Q : Option AV → List PS → Prop} (hk : k < 3) (h : ∀ P', Blk (gA P' 0 25) (fun i => gA P 0 90 (12 * k + i)) (gA P 0 25) 0 12 → Blk (gA P' 0 26) (fun i => gA P 0 91 (12 * k + i)) (gA P 0 26) 0 12 → Fr [] [] [25, 26] [] P P' → cX12_back_101 (0, 0, 0, 0) d (iI (k : Nat)) 0 P' R Q) : cX12_back_53 (0, 0, 0, 0) d (iI (k : Nat)) 0 P R Q := by
  have key : ∀ m j : Nat, ∀ A : PS, j + m = 12 → Blk (gA A 0 25) (fun i => gA P 0 90 (12 * k + i)) (gA P 0 25) 0 j → Blk (gA A 0 26) (fun i => gA P 0 91 (12 * k + i)) (gA P 0 26) 0 j → Fr [] [] [25, 26] [] P A → cX12_back_53 (0, 0, 0, 0) d (iI (k : Nat)) (iI (j : Nat)) A R Q := by
    intro m
    induction m with
    | zero =>
      intro j A hj b0 b1 f
      have ej : j = 12 := by omega
      subst ej
      refine gX12_back_53 ?_
      unfold fX12_back_53
      simp (disch := omega) only [iI_lit, iI_le, iI_in, iI_cl, Int.toNat_natCast]
      refine ⟨fun _ => h A b0 b1 f, fun c => absurd (by omega) c⟩
    | succ m ih =>
      intro j A hj b0 b1 f
      refine gX12_back_53 ?_
      unfold fX12_back_53
      simp (disch := omega) only [iI_lit, iI_le, iI_in, iI_cl, iI_mul, iI_add, Int.toNat_natCast]
      rw [show (12 * ((k : Nat) : Int) + (j : Nat)).toNat = 12 * k + j by omega]
      refine ⟨fun c => absurd c (by omega), fun _ => ⟨by omega, by omega, by omega, by omega, ih (j + 1) _ (by omega) ?_ ?_ ?_⟩⟩
      · refine b0.s (fun i => ?_)
        have e : gA A 0 90 (12 * k + j) = gA P 0 90 (12 * k + j) := f.2.2.2.1 _ _ (by simp)
        simp only [gI_sI, gI_sL, gI_sA, gI_sB, gI_sO, gI_sR, gI_sW, gL_sI, gL_sL, gL_sA, gL_sB, gL_sO, gL_sR, gL_sW, gA_sI, gA_sL, gA_sA, gA_sB, gA_sO, gA_sR, gB_sI, gB_sL, gB_sA, gB_sB, gB_sO, gB_sR, gB_sW, gO_sI, gO_sL, gO_sA, gO_sB, gO_sO, gO_sR, gO_sW, gR_sI, gR_sL, gR_sA, gR_sB, gR_sO, gR_sR, gR_sW, gN_sI, gN_sL, gN_sA, gN_sB, gN_sO, gN_sR, gN_sW, if_true, if_false, Nat.reduceEqDiff, reduceIte]
        rw [show 0 + j = j by omega]
        by_cases c : i = j
        · simp only [if_pos c, e]
        · simp only [if_neg c]
      · refine b1.s (fun i => ?_)
        have e : gA A 0 91 (12 * k + j) = gA P 0 91 (12 * k + j) := f.2.2.2.1 _ _ (by simp)
        simp only [gI_sI, gI_sL, gI_sA, gI_sB, gI_sO, gI_sR, gI_sW, gL_sI, gL_sL, gL_sA, gL_sB, gL_sO, gL_sR, gL_sW, gA_sI, gA_sL, gA_sA, gA_sB, gA_sO, gA_sR, gB_sI, gB_sL, gB_sA, gB_sB, gB_sO, gB_sR, gB_sW, gO_sI, gO_sL, gO_sA, gO_sB, gO_sO, gO_sR, gO_sW, gR_sI, gR_sL, gR_sA, gR_sB, gR_sO, gR_sR, gR_sW, gN_sI, gN_sL, gN_sA, gN_sB, gN_sO, gN_sR, gN_sW, if_true, if_false, Nat.reduceEqDiff, reduceIte]
        rw [show 0 + j = j by omega]
        by_cases c : i = j
        · simp only [if_pos c, e]
        · simp only [if_neg c]
      · exact (f.sA (by simp)).sA (by simp)
  exact key 12 0 P (by omega) (Blk.z _ _ _) (Blk.z _ _ _) Fr.rf
theorem M_back20 {d k : Nat} {P : PS} {R : List PS} {Q : Option AV → List PS → Prop} (hk : k < 3) (h : ∀ P', Blk (gA P' 0 23) (fun i => gA P 0 89 (3072 * k + i)) (gA P 0 23) 0 3072 → Fr [] [] [23] [] P P' → cX12_back_53 (0, 0, 0, 0) d (iI (k : Nat)) 0 P' R Q) : cX12_back_20 (0, 0, 0, 0) d (iI (k : Nat)) 0 P R Q := by
  have key : ∀ m j : Nat, ∀ A : PS, j + m = 3072 → Blk (gA A 0 23) (fun i => gA P 0 89 (3072 * k + i)) (gA P 0 23) 0 j → Fr [] [] [23] [] P A → cX12_back_20 (0, 0, 0, 0) d (iI (k : Nat)) (iI (j : Nat)) A R Q := by
    intro m
    induction m with
    | zero =>
      intro j A hj b0 f
      have ej : j = 3072 := by omega
      subst ej
      refine gX12_back_20 ?_
      unfold fX12_back_20
      simp (disch := omega) only [iI_lit, iI_le, iI_in, iI_cl, Int.toNat_natCast]
      refine ⟨fun _ => h A b0 f, fun c => absurd (by omega) c⟩
    | succ m ih =>
      intro j A hj b0 f
      refine gX12_back_20 ?_
      unfold fX12_back_20
      simp (disch := omega) only [iI_lit, iI_le, iI_in, iI_cl, iI_mul, iI_add, Int.toNat_natCast]
      rw [show (3072 * ((k : Nat) : Int) + (j : Nat)).toNat = 3072 * k + j by omega]
      refine ⟨fun c => absurd c (by omega), fun _ => ⟨by omega, by omega, ih (j + 1) _ (by omega) ?_ ?_⟩⟩
      · refine b0.s (fun i => ?_)
        have e : gA A 0 89 (3072 * k + j) = gA P 0 89 (3072 * k + j) := f.2.2.2.1 _ _ (by simp)
        simp only [gI_sI, gI_sL, gI_sA, gI_sB, gI_sO, gI_sR, gI_sW, gL_sI, gL_sL, gL_sA, gL_sB, gL_sO, gL_sR, gL_sW, gA_sI, gA_sL, gA_sA, gA_sB, gA_sO, gA_sR, gB_sI, gB_sL, gB_sA, gB_sB, gB_sO, gB_sR, gB_sW, gO_sI, gO_sL, gO_sA, gO_sB, gO_sO, gO_sR, gO_sW, gR_sI, gR_sL, gR_sA, gR_sB, gR_sO, gR_sR, gR_sW, gN_sI, gN_sL, gN_sA, gN_sB, gN_sO, gN_sR, gN_sW, if_true, if_false, Nat.reduceEqDiff, reduceIte]
        rw [show 0 + j = j by omega]
        by_cases c : i = j
        · simp only [if_pos c, e]
        · simp only [if_neg c]
      · exact f.sA (by simp)
  exact key 3072 0 P (by omega) (Blk.z _ _ _) Fr.rf
