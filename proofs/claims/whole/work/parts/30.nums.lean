/-! ===== numbers and pools ===== -/
theorem gN_sI (P : PS) (j a : Nat) (v : Int32) : gN (sI P j a v) = gN P := rfl
theorem gI_sI (P : PS) (j a : Nat) (v : Int32) (j1 a1 : Nat) : gI (sI P j a v) j1 a1 = if a1 = a then (if j1 = j then v else gI P j1 a1) else gI P j1 a1 := rfl
theorem gL_sI (P : PS) (j a : Nat) (v : Int32) (j1 a1 : Nat) : gL (sI P j a v) j1 a1 = gL P j1 a1 := rfl
theorem gA_sI (P : PS) (j a : Nat) (v : Int32) (j1 a1 i1 : Nat) : gA (sI P j a v) j1 a1 i1 = gA P j1 a1 i1 := rfl
theorem gB_sI (P : PS) (j a : Nat) (v : Int32) (j1 a1 i1 : Nat) : gB (sI P j a v) j1 a1 i1 = gB P j1 a1 i1 := rfl
theorem gO_sI (P : PS) (j a : Nat) (v : Int32) (j1 a1 : Nat) : gO (sI P j a v) j1 a1 = gO P j1 a1 := rfl
theorem gR_sI (P : PS) (j a : Nat) (v : Int32) (j1 a1 i1 : Nat) : gR (sI P j a v) j1 a1 i1 = gR P j1 a1 i1 := rfl
theorem gN_sL (P : PS) (j a : Nat) (v : Int64) : gN (sL P j a v) = gN P := rfl
theorem gI_sL (P : PS) (j a : Nat) (v : Int64) (j1 a1 : Nat) : gI (sL P j a v) j1 a1 = gI P j1 a1 := rfl
theorem gL_sL (P : PS) (j a : Nat) (v : Int64) (j1 a1 : Nat) : gL (sL P j a v) j1 a1 = if a1 = a then (if j1 = j then v else gL P j1 a1) else gL P j1 a1 := rfl
theorem gA_sL (P : PS) (j a : Nat) (v : Int64) (j1 a1 i1 : Nat) : gA (sL P j a v) j1 a1 i1 = gA P j1 a1 i1 := rfl
theorem gB_sL (P : PS) (j a : Nat) (v : Int64) (j1 a1 i1 : Nat) : gB (sL P j a v) j1 a1 i1 = gB P j1 a1 i1 := rfl
theorem gO_sL (P : PS) (j a : Nat) (v : Int64) (j1 a1 : Nat) : gO (sL P j a v) j1 a1 = gO P j1 a1 := rfl
theorem gR_sL (P : PS) (j a : Nat) (v : Int64) (j1 a1 i1 : Nat) : gR (sL P j a v) j1 a1 i1 = gR P j1 a1 i1 := rfl
theorem gN_sA (P : PS) (j a i : Nat) (v : Int32) : gN (sA P j a i v) = gN P := rfl
theorem gI_sA (P : PS) (j a i : Nat) (v : Int32) (j1 a1 : Nat) : gI (sA P j a i v) j1 a1 = gI P j1 a1 := rfl
theorem gL_sA (P : PS) (j a i : Nat) (v : Int32) (j1 a1 : Nat) : gL (sA P j a i v) j1 a1 = gL P j1 a1 := rfl
theorem gA_sA (P : PS) (j a i : Nat) (v : Int32) (j1 a1 i1 : Nat) : gA (sA P j a i v) j1 a1 i1 = if a1 = a then (if j1 = j then (if i1 = i then v else gA P j1 a1 i1) else gA P j1 a1 i1) else gA P j1 a1 i1 := rfl
theorem gB_sA (P : PS) (j a i : Nat) (v : Int32) (j1 a1 i1 : Nat) : gB (sA P j a i v) j1 a1 i1 = gB P j1 a1 i1 := rfl
theorem gO_sA (P : PS) (j a i : Nat) (v : Int32) (j1 a1 : Nat) : gO (sA P j a i v) j1 a1 = gO P j1 a1 := rfl
theorem gR_sA (P : PS) (j a i : Nat) (v : Int32) (j1 a1 i1 : Nat) : gR (sA P j a i v) j1 a1 i1 = gR P j1 a1 i1 := rfl
theorem gN_sB (P : PS) (j a i : Nat) (v : Int64) : gN (sB P j a i v) = gN P := rfl
theorem gI_sB (P : PS) (j a i : Nat) (v : Int64) (j1 a1 : Nat) : gI (sB P j a i v) j1 a1 = gI P j1 a1 := rfl
theorem gL_sB (P : PS) (j a i : Nat) (v : Int64) (j1 a1 : Nat) : gL (sB P j a i v) j1 a1 = gL P j1 a1 := rfl
theorem gA_sB (P : PS) (j a i : Nat) (v : Int64) (j1 a1 i1 : Nat) : gA (sB P j a i v) j1 a1 i1 = gA P j1 a1 i1 := rfl
theorem gB_sB (P : PS) (j a i : Nat) (v : Int64) (j1 a1 i1 : Nat) : gB (sB P j a i v) j1 a1 i1 = if a1 = a then (if j1 = j then (if i1 = i then v else gB P j1 a1 i1) else gB P j1 a1 i1) else gB P j1 a1 i1 := rfl
theorem gO_sB (P : PS) (j a i : Nat) (v : Int64) (j1 a1 : Nat) : gO (sB P j a i v) j1 a1 = gO P j1 a1 := rfl
theorem gR_sB (P : PS) (j a i : Nat) (v : Int64) (j1 a1 i1 : Nat) : gR (sB P j a i v) j1 a1 i1 = gR P j1 a1 i1 := rfl
theorem gN_sO (P : PS) (j a : Nat) (v : Option Nat) : gN (sO P j a v) = gN P := rfl
theorem gI_sO (P : PS) (j a : Nat) (v : Option Nat) (j1 a1 : Nat) : gI (sO P j a v) j1 a1 = gI P j1 a1 := rfl
theorem gL_sO (P : PS) (j a : Nat) (v : Option Nat) (j1 a1 : Nat) : gL (sO P j a v) j1 a1 = gL P j1 a1 := rfl
theorem gA_sO (P : PS) (j a : Nat) (v : Option Nat) (j1 a1 i1 : Nat) : gA (sO P j a v) j1 a1 i1 = gA P j1 a1 i1 := rfl
theorem gB_sO (P : PS) (j a : Nat) (v : Option Nat) (j1 a1 i1 : Nat) : gB (sO P j a v) j1 a1 i1 = gB P j1 a1 i1 := rfl
theorem gO_sO (P : PS) (j a : Nat) (v : Option Nat) (j1 a1 : Nat) : gO (sO P j a v) j1 a1 = if a1 = a then (if j1 = j then v else gO P j1 a1) else gO P j1 a1 := rfl
theorem gR_sO (P : PS) (j a : Nat) (v : Option Nat) (j1 a1 i1 : Nat) : gR (sO P j a v) j1 a1 i1 = gR P j1 a1 i1 := rfl
theorem gN_sR (P : PS) (j a i : Nat) (v : Option Nat) : gN (sR P j a i v) = gN P := rfl
theorem gI_sR (P : PS) (j a i : Nat) (v : Option Nat) (j1 a1 : Nat) : gI (sR P j a i v) j1 a1 = gI P j1 a1 := rfl
theorem gL_sR (P : PS) (j a i : Nat) (v : Option Nat) (j1 a1 : Nat) : gL (sR P j a i v) j1 a1 = gL P j1 a1 := rfl
theorem gA_sR (P : PS) (j a i : Nat) (v : Option Nat) (j1 a1 i1 : Nat) : gA (sR P j a i v) j1 a1 i1 = gA P j1 a1 i1 := rfl
theorem gB_sR (P : PS) (j a i : Nat) (v : Option Nat) (j1 a1 i1 : Nat) : gB (sR P j a i v) j1 a1 i1 = gB P j1 a1 i1 := rfl
theorem gO_sR (P : PS) (j a i : Nat) (v : Option Nat) (j1 a1 : Nat) : gO (sR P j a i v) j1 a1 = gO P j1 a1 := rfl
theorem gR_sR (P : PS) (j a i : Nat) (v : Option Nat) (j1 a1 i1 : Nat) : gR (sR P j a i v) j1 a1 i1 = if a1 = a then (if j1 = j then (if i1 = i then v else gR P j1 a1 i1) else gR P j1 a1 i1) else gR P j1 a1 i1 := rfl
theorem gN_sW (P : PS) (j a : Nat) (v : Nat → Int32) : gN (sW P j a v) = gN P := rfl
theorem gI_sW (P : PS) (j a : Nat) (v : Nat → Int32) (j1 a1 : Nat) : gI (sW P j a v) j1 a1 = gI P j1 a1 := rfl
theorem gL_sW (P : PS) (j a : Nat) (v : Nat → Int32) (j1 a1 : Nat) : gL (sW P j a v) j1 a1 = gL P j1 a1 := rfl
theorem gB_sW (P : PS) (j a : Nat) (v : Nat → Int32) (j1 a1 i1 : Nat) : gB (sW P j a v) j1 a1 i1 = gB P j1 a1 i1 := rfl
theorem gO_sW (P : PS) (j a : Nat) (v : Nat → Int32) (j1 a1 : Nat) : gO (sW P j a v) j1 a1 = gO P j1 a1 := rfl
theorem gR_sW (P : PS) (j a : Nat) (v : Nat → Int32) (j1 a1 i1 : Nat) : gR (sW P j a v) j1 a1 i1 = gR P j1 a1 i1 := rfl
theorem gA_sW (P : PS) (j a : Nat) (f : Nat → Int32) (j1 a1 i1 : Nat) : gA (sW P j a f) j1 a1 i1 = if a1 = a then (if j1 = j then f i1 else gA P j1 a1 i1) else gA P j1 a1 i1 := by
  simp only [gA, sW]
  split
  · split <;> rfl
  · rfl
/-- an int -/
def iI (n : Int) : Int32 := Int32.ofInt n
def iL (n : Int) : Int64 := Int64.ofInt n
theorem iI_add (a b : Int) : iI a + iI b = iI (a + b) := (Int32.ofInt_add a b).symm
theorem iI_sub (a b : Int) : iI a - iI b = iI (a - b) := (Int32.ofInt_sub a b).symm
theorem iI_mul (a b : Int) : iI a * iI b = iI (a * b) := (Int32.ofInt_mul a b).symm
theorem iI_neg (a : Int) : -iI a = iI (-a) := (Int32.ofInt_neg a).symm
theorem iI_lit (n : Nat) : (OfNat.ofNat n : Int32) = iI (OfNat.ofNat n) := by
  show Int32.ofNat n = Int32.ofInt (n : Int)
  exact (Int32.ofInt_eq_ofNat).symm
theorem iI_t {a : Int} (h : -2147483648 ≤ a) (h' : a < 2147483648) : (iI a).toInt = a := Int32.toInt_ofInt_of_le (by simpa using h) (by simpa using h')
theorem iI_lt {a b : Int} (h : -2147483648 ≤ a) (h' : a < 2147483648) (g : -2147483648 ≤ b) (g' : b < 2147483648) : iI a < iI b ↔ a < b := by
  rw [Int32.lt_iff_toInt_lt, iI_t h h', iI_t g g']
theorem iI_le {a b : Int} (h : -2147483648 ≤ a) (h' : a < 2147483648) (g : -2147483648 ≤ b) (g' : b < 2147483648) : iI a ≤ iI b ↔ a ≤ b := by
  rw [Int32.le_iff_toInt_le, iI_t h h', iI_t g g']
theorem iI_eq {a b : Int} (h : -2147483648 ≤ a) (h' : a < 2147483648) (g : -2147483648 ≤ b) (g' : b < 2147483648) : iI a = iI b ↔ a = b := by
  rw [← Int32.toInt_inj, iI_t h h', iI_t g g']
theorem iI_of (x : Int32) : ∃ a : Int, x = iI a ∧ -2147483648 ≤ a ∧ a < 2147483648 := ⟨x.toInt, (Int32.ofInt_toInt x).symm, by have := Int32.le_toInt x; simpa using this, by have := Int32.toInt_lt x; simpa using this⟩
theorem iI_in {a : Int} {n : Nat} (h : -2147483648 ≤ a) (h' : a < 2147483648) : vp_in (iI a) n ↔ 0 ≤ a ∧ a < n := by rw [vp_in_iff, iI_t h h']
theorem iI_cl {a : Int} (h : -2147483648 ≤ a) (h' : a < 2147483648) : (iI a).toNatClampNeg = a.toNat := by
  show (iI a).toInt.toNat = a.toNat
  rw [iI_t h h']
theorem nI_iI (n : Nat) : nI n = iI n := by
  show Int32.ofNat n = Int32.ofInt (n : Int)
  exact (Int32.ofInt_eq_ofNat).symm

theorem iI_div {a b : Int} (h : 0 ≤ a) (h' : a < 2147483648) (g : 0 < b) (g' : b < 2147483648) : iI a / iI b = iI (a / b) := by
  have h1 : (iI a).toInt = a := iI_t (by omega) h'
  have h2 : (iI b).toInt = b := iI_t (by omega) g'
  have h0 : 0 ≤ a / b := Int.ediv_nonneg h (by omega)
  have h3 : a / b ≤ a := Int.ediv_le_self b h
  rw [← Int32.toInt_inj, Int32.toInt_div_of_ne_right _ _ (fun e => by
    have : (iI b).toInt = -1 := by rw [e]; rfl
    omega), h1, h2, iI_t (by omega) (by omega), Int.tdiv_eq_ediv_of_nonneg h]
theorem iI_rem {a b : Int} (h : 0 ≤ a) (h' : a < 2147483648) (g : 0 < b) (g' : b < 2147483648) : iI a - iI a / iI b * iI b = iI (a % b) := by
  rw [iI_div h h' g g', iI_mul, iI_sub, Int.emod_def, Int.mul_comm b]
theorem iL_add (a b : Int) : iL a + iL b = iL (a + b) := (Int64.ofInt_add a b).symm
theorem iL_sub (a b : Int) : iL a - iL b = iL (a - b) := (Int64.ofInt_sub a b).symm
theorem iL_mul (a b : Int) : iL a * iL b = iL (a * b) := (Int64.ofInt_mul a b).symm
theorem iL_neg (a : Int) : -iL a = iL (-a) := (Int64.ofInt_neg a).symm
theorem iL_lit (n : Nat) : (OfNat.ofNat n : Int64) = iL (OfNat.ofNat n) := by
  show Int64.ofNat n = Int64.ofInt (n : Int)
  exact (Int64.ofInt_eq_ofNat).symm
theorem iL_t {a : Int} (h : -9223372036854775808 ≤ a) (h' : a < 9223372036854775808) : (iL a).toInt = a := Int64.toInt_ofInt_of_le (by simpa using h) (by simpa using h')
theorem iL_lt {a b : Int} (h : -9223372036854775808 ≤ a) (h' : a < 9223372036854775808) (g : -9223372036854775808 ≤ b) (g' : b < 9223372036854775808) : iL a < iL b ↔ a < b := by
  rw [Int64.lt_iff_toInt_lt, iL_t h h', iL_t g g']
theorem iL_le {a b : Int} (h : -9223372036854775808 ≤ a) (h' : a < 9223372036854775808) (g : -9223372036854775808 ≤ b) (g' : b < 9223372036854775808) : iL a ≤ iL b ↔ a ≤ b := by
  rw [Int64.le_iff_toInt_le, iL_t h h', iL_t g g']
theorem iL_eq {a b : Int} (h : -9223372036854775808 ≤ a) (h' : a < 9223372036854775808) (g : -9223372036854775808 ≤ b) (g' : b < 9223372036854775808) : iL a = iL b ↔ a = b := by
  rw [← Int64.toInt_inj, iL_t h h', iL_t g g']
theorem iL_of (x : Int64) : ∃ a : Int, x = iL a ∧ -9223372036854775808 ≤ a ∧ a < 9223372036854775808 := ⟨x.toInt, (Int64.ofInt_toInt x).symm, by have := Int64.le_toInt x; simpa using this, by have := Int64.toInt_lt x; simpa using this⟩
theorem iI_l {a : Int} (h : -2147483648 ≤ a) (h' : a < 2147483648) : (iI a).toInt64 = iL a := by
  rw [← Int64.toInt_inj, Int32.toInt_toInt64, iI_t h h', iL_t (by omega) (by omega)]
theorem iL_i (a : Int) : (iL a).toInt32 = iI a := Int64.toInt32_ofInt
theorem iL_div {a b : Int} (h : 0 ≤ a) (h' : a < 9223372036854775808) (g : 0 < b) (g' : b < 9223372036854775808) : iL a / iL b = iL (a / b) := by
  have h1 : (iL a).toInt = a := iL_t (by omega) h'
  have h2 : (iL b).toInt = b := iL_t (by omega) g'
  have h0 : 0 ≤ a / b := Int.ediv_nonneg h (by omega)
  have h3 : a / b ≤ a := Int.ediv_le_self b h
  rw [← Int64.toInt_inj, Int64.toInt_div_of_ne_right _ _ (fun e => by
    have : (iL b).toInt = -1 := by rw [e]; rfl
    omega), h1, h2, iL_t (by omega) (by omega), Int.tdiv_eq_ediv_of_nonneg h]
theorem iL_rem {a b : Int} (h : 0 ≤ a) (h' : a < 9223372036854775808) (g : 0 < b) (g' : b < 9223372036854775808) : iL a - iL a / iL b * iL b = iL (a % b) := by
  rw [iL_div h h' g g', iL_mul, iL_sub, Int.emod_def, Int.mul_comm b]
theorem lcmp_lt {x y : Int64} : lg_cmp x y < 0 ↔ x < y := by
  unfold lg_cmp
  by_cases h1 : x > y
  · rw [if_pos h1]
    exact ⟨fun h => absurd h (by decide), fun h => absurd h1 (Int64.lt_asymm h)⟩
  · rw [if_neg h1]
    by_cases h2 : x = y
    · rw [if_pos h2]
      exact ⟨fun h => absurd h (by decide), fun h => absurd h (by rw [h2]; exact Int64.lt_irrefl)⟩
    · rw [if_neg h2]
      exact ⟨fun _ => Int64.lt_of_le_of_ne (Int64.not_lt.mp h1) h2, fun _ => by decide⟩
theorem lcmp_eq {x y : Int64} : lg_cmp x y = 0 ↔ x = y := by
  unfold lg_cmp
  by_cases h1 : x > y
  · rw [if_pos h1]
    exact ⟨fun h => absurd h (by decide), fun h => absurd h1 (by rw [h]; exact Int64.lt_irrefl)⟩
  · rw [if_neg h1]
    by_cases h2 : x = y
    · simp [h2]
    · rw [if_neg h2]
      exact ⟨fun h => absurd h (by decide), fun h => absurd h h2⟩
theorem lcmp_gt {x y : Int64} : 0 < lg_cmp x y ↔ y < x := by
  unfold lg_cmp
  by_cases h1 : x > y
  · rw [if_pos h1]
    exact ⟨fun _ => h1, fun _ => by decide⟩
  · rw [if_neg h1]
    by_cases h2 : x = y
    · rw [if_pos h2]
      exact ⟨fun h => absurd h (by decide), fun h => absurd h h1⟩
    · rw [if_neg h2]
      exact ⟨fun h => absurd h (by decide), fun h => absurd h h1⟩
theorem lcmp_le {x y : Int64} : lg_cmp x y ≤ 0 ↔ x ≤ y := by
  rw [← Int32.not_lt, lcmp_gt, Int64.not_lt]
theorem lcmp_ge {x y : Int64} : 0 ≤ lg_cmp x y ↔ y ≤ x := by
  rw [← Int32.not_lt, lcmp_lt, Int64.not_lt]
/-- what a method leaves as it was: of object 0 all but the slots that are named (ints, longs, int arrays, long arrays) -/
def Fr (is ls as bs : List Nat) (P P' : PS) : Prop := gN P' = gN P ∧ (∀ a, a ∉ is → gI P' 0 a = gI P 0 a) ∧ (∀ a, a ∉ ls → gL P' 0 a = gL P 0 a) ∧ (∀ a i, a ∉ as → gA P' 0 a i = gA P 0 a i) ∧ (∀ a i, a ∉ bs → gB P' 0 a i = gB P 0 a i)
theorem Fr.rf {is ls as bs : List Nat} {P : PS} : Fr is ls as bs P P := ⟨rfl, fun _ _ => rfl, fun _ _ => rfl, fun _ _ _ => rfl, fun _ _ _ => rfl⟩
theorem Fr.tr {is ls as bs is1 ls1 as1 bs1 is2 ls2 as2 bs2 : List Nat} {P P' P'' : PS} (h : Fr is1 ls1 as1 bs1 P P') (h' : Fr is2 ls2 as2 bs2 P' P'') (s1 : is1 ⊆ is) (s2 : ls1 ⊆ ls) (s3 : as1 ⊆ as) (s4 : bs1 ⊆ bs) (t1 : is2 ⊆ is) (t2 : ls2 ⊆ ls) (t3 : as2 ⊆ as) (t4 : bs2 ⊆ bs) : Fr is ls as bs P P'' :=
  ⟨h'.1.trans h.1, fun a ha => (h'.2.1 a (fun q => ha (t1 q))).trans (h.2.1 a (fun q => ha (s1 q))), fun a ha => (h'.2.2.1 a (fun q => ha (t2 q))).trans (h.2.2.1 a (fun q => ha (s2 q))), fun a i ha => (h'.2.2.2.1 a i (fun q => ha (t3 q))).trans (h.2.2.2.1 a i (fun q => ha (s3 q))), fun a i ha => (h'.2.2.2.2 a i (fun q => ha (t4 q))).trans (h.2.2.2.2 a i (fun q => ha (s4 q)))⟩
