/-! ===== bits of an int, their number ===== -/
def bz (x : Int32) (i : Nat) : Bool := x.toBitVec.toNat.testBit i
theorem bz_nat (n : Nat) (hn : n < 4294967296) (i : Nat) : bz (iI (n : Nat)) i = n.testBit i := by
  unfold bz
  rw [← nI_iI, pk_tn (by omega)]
theorem bz_ext {x y : Int32} (h : ∀ i, i < 32 → bz x i = bz y i) : x = y := by
  apply Int32.toBitVec_inj.mp
  apply BitVec.eq_of_toNat_eq
  apply Nat.eq_of_testBit_eq
  intro i
  by_cases c : i < 32
  · exact h i c
  · rw [Nat.testBit_lt_two_pow (Nat.lt_of_lt_of_le x.toBitVec.isLt (Nat.pow_le_pow_right (by omega) (by omega))), Nat.testBit_lt_two_pow (Nat.lt_of_lt_of_le y.toBitVec.isLt (Nat.pow_le_pow_right (by omega) (by omega)))]
theorem bz_or (x y : Int32) (i : Nat) : bz (x ||| y) i = (bz x i || bz y i) := by
  unfold bz; rw [Int32.toBitVec_or, BitVec.toNat_or, Nat.testBit_or]
theorem bz_and (x y : Int32) (i : Nat) : bz (x &&& y) i = (bz x i && bz y i) := by
  unfold bz; rw [Int32.toBitVec_and, BitVec.toNat_and, Nat.testBit_and]
theorem bz_xor (x y : Int32) (i : Nat) : bz (x ^^^ y) i = (bz x i ^^ bz y i) := by
  unfold bz; rw [Int32.toBitVec_xor, BitVec.toNat_xor, Nat.testBit_xor]
theorem bz_m1 : ∀ i, i < 32 → bz (-1 : Int32) i = true := by decide +kernel
theorem bz_not (x : Int32) {i : Nat} (hi : i < 32) : bz (x ^^^ (-1 : Int32)) i = !bz x i := by rw [bz_xor, bz_m1 i hi]; simp
theorem bz_0 (i : Nat) : bz (0 : Int32) i = false := by unfold bz; show Nat.testBit 0 i = false; exact Nat.zero_testBit i
theorem bz_1 : ∀ k, k < 32 → ∀ i, i < 32 → bz ((1 : Int32) <<< ((iI (k : Nat)) &&& 31)) i = decide (i = k) := by decide +kernel
theorem bz_eq0 {x : Int32} : x = 0 ↔ ∀ i, i < 32 → bz x i = false := ⟨fun h i _ => by rw [h]; exact bz_0 i, fun h => bz_ext (fun i hi => by rw [h i hi, bz_0])⟩
theorem bz_amt : ∀ i, i < 32 → (((iI (i : Nat)).toUInt32 &&& Int32.toUInt32 31).toBitVec % 32).toNat = i := by decide +kernel
theorem bz_u (x : Int32) {k : Nat} (hk : k < 32) : ((x.toUInt32 >>> ((iI (k : Nat)).toUInt32 &&& Int32.toUInt32 31)).toInt32 &&& 1) = oI (bz x k) := by
  have h1 := pk_ushr x (iI (k : Nat)) k (bz_amt k hk)
  rw [pk_and _ 1 (by decide), h1, nI_iI]
  unfold bz
  rw [Nat.testBit_eq_decide_div_mod_eq, oI_i]
  have : x.toBitVec.toNat / 2 ^ k % 2 < 2 := Nat.mod_lt _ (by omega)
  congr 1
  by_cases c : x.toBitVec.toNat / 2 ^ k % 2 = 1
  · rw [decide_eq_true c]; show ((x.toBitVec.toNat / 2 ^ k % 2 ^ 1 : Nat) : Int) = 1; omega
  · rw [decide_eq_false c]; show ((x.toBitVec.toNat / 2 ^ k % 2 ^ 1 : Nat) : Int) = 0; omega
theorem bz_s (x : Int32) {k : Nat} (hk : k < 32) : (x >>> ((iI (k : Nat)) &&& 31)) &&& 1 = oI (bz x k) := by
  have hb : ∀ n, n < 32 → (((iI (n : Nat)) &&& 31).toBitVec.smod 32).toNat = n := by decide +kernel
  have h1 := pk_shr x ((iI (k : Nat)) &&& 31) k (hb k hk)
  rw [pk_and _ 1 (by decide), nI_iI, oI_i]
  have hr : (x >>> ((iI (k : Nat)) &&& 31)).toInt = x.toInt / 2 ^ k := by rw [h1, Int.shiftRight_eq_div_pow]; rfl
  have e1 : ∀ y : Int32, (y.toBitVec.toNat : Int) = y.toInt % 4294967296 := by
    intro y
    have := BitVec.toInt_eq_toNat_bmod y.toBitVec
    have h2 : y.toInt = (y.toBitVec.toNat : Int).bmod 4294967296 := this
    have q : ((y.toBitVec.toNat : Int).bmod 4294967296) % ((4294967296 : Nat) : Int) = (y.toBitVec.toNat : Int) % ((4294967296 : Nat) : Int) := Int.bmod_emod
    have := y.toBitVec.isLt
    omega
  unfold bz
  rw [Nat.testBit_eq_decide_div_mod_eq]
  have e2 := e1 (x >>> ((iI (k : Nat)) &&& 31))
  have e3 := e1 x
  rw [hr] at e2
  generalize (x >>> ((iI (k : Nat)) &&& 31)).toBitVec.toNat = A at *
  generalize x.toBitVec.toNat = B at *
  have hB : x.toInt = B + 4294967296 * (x.toInt / 4294967296) := by omega
  generalize x.toInt / 4294967296 = q at *
  have hp : (4294967296 : Int) = 2 ^ k * 2 ^ (32 - k) := by
    rw [← Int.pow_add, show k + (32 - k) = 32 by omega]; rfl
  have hpos : (0 : Int) < 2 ^ k := Int.pow_pos (by omega)
  have hd : x.toInt / 2 ^ k = B / 2 ^ k + 2 ^ (32 - k) * q := by
    rw [hB, hp, Int.mul_assoc, Int.add_mul_ediv_left _ _ (by omega)]
  have hev : (2 : Int) ^ (32 - k) = 2 * 2 ^ (31 - k) := by rw [show 32 - k = (31 - k) + 1 by omega, Int.pow_succ]; omega
  have hA : (A : Int) % 2 = (B / 2 ^ k : Int) % 2 := by
    rw [e2, hd, hev]
    have : (2 : Int) * 2 ^ (31 - k) * q = 2 * (2 ^ (31 - k) * q) := by rw [Int.mul_assoc]
    rw [this]
    generalize (2 : Int) ^ (31 - k) * q = w
    omega
  have hC : ((B / 2 ^ k : Nat) : Int) = (B : Int) / 2 ^ k := by rw [Int.natCast_ediv, Int.natCast_pow]; rfl
  rw [← hC] at hA
  congr 1
  by_cases c : B / 2 ^ k % 2 = 1
  · rw [decide_eq_true c]; show ((A % 2 ^ 1 : Nat) : Int) = 1; omega
  · rw [decide_eq_false c]; show ((A % 2 ^ 1 : Nat) : Int) = 0; omega
/-! digits to the base 16 -/
theorem and16 (a b h k : Nat) (hh : h < 16) (hk : k < 16) : (16 * a + h) &&& (16 * b + k) = 16 * (a &&& b) + (h &&& k) := by
  have e : ∀ a h, h < 16 → 16 * a + h = a <<< 4 ||| h := fun a h hh => by
    rw [← Nat.shiftLeft_add_eq_or_of_lt (show h < 2 ^ 4 by omega), Nat.shiftLeft_eq]; omega
  have hl : h &&& k < 16 := Nat.lt_of_le_of_lt Nat.and_le_left hh
  rw [e a h hh, e b k hk, e _ _ hl]
  apply Nat.eq_of_testBit_eq
  intro i
  simp only [Nat.testBit_and, Nat.testBit_or, Nat.testBit_shiftLeft]
  by_cases c : i < 4
  · have : ¬ (i ≥ 4) := by omega
    simp [this]
  · have h1 : h.testBit i = false := Nat.testBit_lt_two_pow (Nat.lt_of_lt_of_le hh (Nat.pow_le_pow_right (show 0 < 2 by omega) (show 4 ≤ i by omega)))
    have h2 : k.testBit i = false := Nat.testBit_lt_two_pow (Nat.lt_of_lt_of_le hk (Nat.pow_le_pow_right (show 0 < 2 by omega) (show 4 ≤ i by omega)))
    simp [h1, h2, show 4 ≤ i by omega]
def rep (m : Nat) : Nat → Nat
  | 0 => 0
  | k + 1 => 16 * rep m k + m
theorem rep_s (m k : Nat) : rep m (k + 1) = 16 * rep m k + m := rfl
def dg (g : Nat → Nat) : Nat → Nat → Nat
  | 0, _ => 0
  | k + 1, n => 16 * dg g k (n / 16) + g (n % 16)
def g1 (h : Nat) : Nat := h - (h / 2 &&& 5)
def g2 (h : Nat) : Nat := (h &&& 3) + (h / 4 &&& 3)
theorem g1_ok : ∀ h, h < 16 → g1 h < 16 ∧ (h / 2 &&& 5) ≤ h ∧ ((8 + h / 2) &&& 5) = (h / 2 &&& 5) := by decide +kernel
theorem g2_ok : ∀ h, h < 16 → ∀ a, a < 4 → ((4 * a + h / 4) &&& 3) = (h / 4 &&& 3) := by decide +kernel
theorem ds1 : ∀ k n, n < 16 ^ k → (n / 2 &&& rep 5 k) ≤ n ∧ n - (n / 2 &&& rep 5 k) = dg g1 k n
  | 0, n, h => by have : n = 0 := by omega
                  subst this; exact ⟨Nat.and_le_left, rfl⟩
  | k + 1, n, h => by
    have ih := ds1 k (n / 16) (by rw [Nat.pow_succ] at h; omega)
    have hg := g1_ok (n % 16) (Nat.mod_lt _ (by omega))
    have e : n / 2 = 16 * (n / 16 / 2) + (8 * (n / 16 % 2) + n % 16 / 2) := by omega
    have e2 : n / 2 &&& rep 5 (k + 1) = 16 * (n / 16 / 2 &&& rep 5 k) + (n % 16 / 2 &&& 5) := by
      rw [e]; rw [rep_s, and16 _ _ _ _ (by omega) (by omega)]
      congr 1
      rcases Nat.mod_two_eq_zero_or_one (n / 16) with c | c
      · rw [c]; simp
      · rw [c]; exact hg.2.2
    rw [e2]
    unfold dg
    rw [← ih.2]
    unfold g1
    omega
theorem ds2 : ∀ k n, n < 16 ^ k → (n &&& rep 3 k) + (n / 4 &&& rep 3 k) = dg g2 k n
  | 0, n, h => by have : n = 0 := by omega
                  subst this; rfl
  | k + 1, n, h => by
    have ih := ds2 k (n / 16) (by rw [Nat.pow_succ] at h; omega)
    have hg := g2_ok (n % 16) (Nat.mod_lt _ (by omega)) (n / 16 % 4) (Nat.mod_lt _ (by omega))
    have e : n / 4 = 16 * (n / 16 / 4) + (4 * (n / 16 % 4) + n % 16 / 4) := by omega
    have e2 : n / 4 &&& rep 3 (k + 1) = 16 * (n / 16 / 4 &&& rep 3 k) + (n % 16 / 4 &&& 3) := by
      rw [e]; rw [rep_s, and16 _ _ _ _ (by omega) (by omega), hg]
    have e3 : n &&& rep 3 (k + 1) = 16 * (n / 16 &&& rep 3 k) + (n % 16 &&& 3) := by
      conv => lhs; rw [show n = 16 * (n / 16) + n % 16 by omega]
      rw [rep_s, and16 _ _ _ _ (by omega) (by omega)]
    rw [e2, e3]
    unfold dg
    rw [← ih]
    unfold g2
    omega
def pc (h : Nat) : Nat := g2 (g1 h)
theorem pc_ok : ∀ h, h < 16 → pc h ≤ 4 ∧ g1 h < 16 ∧ pc h = cnt (fun i => h.testBit i) 4 := by decide +kernel
theorem dg_lt {g : Nat → Nat} (hg : ∀ h, h < 16 → g h < 16) : ∀ k n, dg g k n < 16 ^ k
  | 0, _ => by unfold dg; omega
  | k + 1, n => by
    have := dg_lt hg k (n / 16)
    have := hg (n % 16) (Nat.mod_lt _ (by omega))
    unfold dg; rw [Nat.pow_succ]; omega
theorem dg_dg {f g : Nat → Nat} (hg : ∀ h, h < 16 → g h < 16) : ∀ k n, dg f k (dg g k n) = dg (fun h => f (g h)) k n
  | 0, _ => rfl
  | k + 1, n => by
    have h1 := hg (n % 16) (Nat.mod_lt _ (by omega))
    show 16 * dg f k ((16 * dg g k (n / 16) + g (n % 16)) / 16) + f ((16 * dg g k (n / 16) + g (n % 16)) % 16) = _
    rw [show (16 * dg g k (n / 16) + g (n % 16)) / 16 = dg g k (n / 16) by omega, show (16 * dg g k (n / 16) + g (n % 16)) % 16 = g (n % 16) by omega, dg_dg hg k]
    rfl
theorem cnt_add (p : Nat → Bool) (a : Nat) : ∀ b, cnt p (a + b) = cnt p a + cnt (fun i => p (a + i)) b
  | 0 => rfl
  | b + 1 => by
    show cnt p (a + b) + (if p (a + b) = true then 1 else 0) = cnt p a + (cnt (fun i => p (a + i)) b + (if p (a + b) = true then 1 else 0))
    rw [cnt_add p a b]
    omega
theorem cnt16 : ∀ k n, cnt (fun i => n.testBit i) (4 * k + 4) = pc (n % 16) + cnt (fun i => (n / 16).testBit i) (4 * k) := fun k n => by
  rw [show 4 * k + 4 = 4 + 4 * k by omega, cnt_add]
  congr 1
  · rw [(pc_ok (n % 16) (Nat.mod_lt _ (by omega))).2.2]
    refine cnt_congr 4 (fun i hi => ?_)
    rw [show 16 = 2 ^ 4 from rfl, Nat.testBit_mod_two_pow]; simp [hi]
  · refine cnt_congr _ (fun i hi => ?_)
    rw [show 16 = 2 ^ 4 from rfl, ← Nat.shiftRight_eq_div_pow, Nat.testBit_shiftRight]
theorem lt_and (a b n : Nat) (h : a < n) : (a &&& b) < n := Nat.lt_of_le_of_lt Nat.and_le_left h
theorem bitc (n : Nat) (hn : n < 4294967296) (y z v w u : Nat) (hy : y = n - (n / 2 &&& 1431655765)) (hz : z = (y &&& 858993459) + (y / 4 &&& 858993459)) (hv : v = (z + z / 16) &&& 252645135) (hw : w = v + v / 256) (hu : u = w + w / 65536) :
    (n / 2 &&& 1431655765) ≤ n ∧ y < 4294967296 ∧ z + z / 16 < 4294967296 ∧ u < 4294967296 ∧ u % 64 = cnt (fun i => n.testBit i) 32 := by
  have s1 := ds1 8 n (by omega)
  have m5 : rep 5 8 = 1431655765 := by decide +kernel
  have m3 : rep 3 8 = 858993459 := by decide +kernel
  rw [m5] at s1
  have hy' : y = dg g1 8 n := by rw [hy]; exact s1.2
  have ylt : y < 16 ^ 8 := by rw [hy']; exact dg_lt (fun h hh => (pc_ok h hh).2.1) 8 n
  have s2 := ds2 8 y ylt
  rw [m3] at s2
  have hz' : z = dg pc 8 n := by rw [hz, s2, hy', dg_dg (fun h hh => (pc_ok h hh).2.1)]; rfl
  have e : z = pc (n % 16) + 16 * pc (n / 16 % 16) + 256 * pc (n / 16 / 16 % 16) + 4096 * pc (n / 16 / 16 / 16 % 16) + 65536 * pc (n / 16 / 16 / 16 / 16 % 16) + 1048576 * pc (n / 16 / 16 / 16 / 16 / 16 % 16) + 16777216 * pc (n / 16 / 16 / 16 / 16 / 16 / 16 % 16) + 268435456 * pc (n / 16 / 16 / 16 / 16 / 16 / 16 / 16 % 16) := by
    rw [hz']; simp only [dg]; omega
  have hc : cnt (fun i => n.testBit i) 32 = pc (n % 16) + (pc (n / 16 % 16) + (pc (n / 16 / 16 % 16) + (pc (n / 16 / 16 / 16 % 16) + (pc (n / 16 / 16 / 16 / 16 % 16) + (pc (n / 16 / 16 / 16 / 16 / 16 % 16) + (pc (n / 16 / 16 / 16 / 16 / 16 / 16 % 16) + (pc (n / 16 / 16 / 16 / 16 / 16 / 16 / 16 % 16)))))))) := by
    rw [cnt16 7, cnt16 6, cnt16 5, cnt16 4, cnt16 3, cnt16 2, cnt16 1, cnt16 0]; rfl
  have pl : ∀ a, pc (a % 16) ≤ 4 := fun a => (pc_ok _ (Nat.mod_lt _ (by omega))).1
  have l0 := pl n
  have l1 := pl (n / 16)
  have l2 := pl (n / 16 / 16)
  have l3 := pl (n / 16 / 16 / 16)
  have l4 := pl (n / 16 / 16 / 16 / 16)
  have l5 := pl (n / 16 / 16 / 16 / 16 / 16)
  have l6 := pl (n / 16 / 16 / 16 / 16 / 16 / 16)
  have l7 := pl (n / 16 / 16 / 16 / 16 / 16 / 16 / 16)
  rw [hc]
  refine ⟨s1.1, by omega, ?_⟩
  clear hc hz hz' hy' s1 s2 pl hy m5 m3 ylt
  generalize pc (n % 16) = p0 at *
  generalize pc (n / 16 % 16) = p1 at *
  generalize pc (n / 16 / 16 % 16) = p2 at *
  generalize pc (n / 16 / 16 / 16 % 16) = p3 at *
  generalize pc (n / 16 / 16 / 16 / 16 % 16) = p4 at *
  generalize pc (n / 16 / 16 / 16 / 16 / 16 % 16) = p5 at *
  generalize pc (n / 16 / 16 / 16 / 16 / 16 / 16 % 16) = p6 at *
  generalize pc (n / 16 / 16 / 16 / 16 / 16 / 16 / 16 % 16) = p7 at *
  have f15 : ∀ h, h < 16 → (h &&& 15) = h := by decide +kernel
  have es : z + z / 16 = 16 * (16 * (16 * (16 * (16 * (16 * (16 * (16 * 0 + p7) + (p6 + p7)) + (p5 + p6)) + (p4 + p5)) + (p3 + p4)) + (p2 + p3)) + (p1 + p2)) + (p0 + p1) := by omega
  have em : 252645135 = 16 * (16 * (16 * (16 * (16 * (16 * (16 * (16 * 0 + 0) + 15) + 0) + 15) + 0) + 15) + 0) + 15 := by decide
  have ev : v = 16 * (16 * (16 * (16 * (16 * (16 * (16 * (16 * 0 + 0) + (p6 + p7)) + 0) + (p4 + p5)) + 0) + (p2 + p3)) + 0) + (p0 + p1) := by
    rw [hv, es, em, and16 _ _ _ _ (by omega) (by omega), and16 _ _ _ _ (by omega) (by omega), and16 _ _ _ _ (by omega) (by omega), and16 _ _ _ _ (by omega) (by omega), and16 _ _ _ _ (by omega) (by omega), and16 _ _ _ _ (by omega) (by omega), and16 _ _ _ _ (by omega) (by omega), and16 _ _ _ _ (by omega) (by omega)]
    rw [f15 _ (by omega), f15 _ (by omega), f15 _ (by omega), f15 _ (by omega), Nat.and_zero, Nat.and_zero, Nat.and_zero, Nat.and_zero, Nat.and_zero]
  have zl : z + z / 16 < 4294967296 := by omega
  refine ⟨zl, ?_⟩
  clear hv em es zl e hn
  have ew : w = (p0 + p1 + (p2 + p3)) + 256 * (p2 + p3 + (p4 + p5)) + 65536 * (p4 + p5 + (p6 + p7)) + 16777216 * (p6 + p7) := by omega
  clear hw ev
  have eu : u = (p0 + p1 + (p2 + p3) + (p4 + p5) + (p6 + p7)) + 256 * (p2 + p3 + (p4 + p5) + (p6 + p7)) + 65536 * (p4 + p5 + (p6 + p7)) + 16777216 * (p6 + p7) := by omega
  clear hu ew
  refine ⟨by omega, by omega⟩
theorem ush (n : Nat) (hn : n < 4294967296) (k : Nat) (hk : k < 32) : ((nI n).toUInt32 >>> ((iI (k : Nat)).toUInt32 &&& Int32.toUInt32 31)).toInt32 = nI (n / 2 ^ k) := pk_ushrN (by omega) (iI (k : Nat)) k (bz_amt k hk)
theorem nI_ad (a b : Nat) : nI a + nI b = nI (a + b) := by rw [nI_iI, nI_iI, nI_iI, iI_add]; rfl
theorem nI_sb {a b : Nat} (h : b ≤ a) : nI a - nI b = nI (a - b) := by rw [nI_iI, nI_iI, nI_iI, iI_sub]; congr 1; omega
theorem nI_an (a b : Nat) (ha : a < 4294967296) (hb : b < 4294967296) : nI a &&& nI b = nI (a &&& b) := by
  apply Int32.toBitVec_inj.mp
  apply BitVec.eq_of_toNat_eq
  rw [Int32.toBitVec_and, BitVec.toNat_and, pk_tn (by omega), pk_tn (by omega), pk_tn (by have := lt_and a b 4294967296 ha; omega)]
theorem nI_x (x : Int32) : x = nI x.toBitVec.toNat := by
  apply Int32.toBitVec_inj.mp
  apply BitVec.eq_of_toNat_eq
  rw [pk_tn (by have := x.toBitVec.isLt; omega)]
/-- how many bits are set -/
def bcn (x : Int32) : Nat := cnt (bz x) 32
theorem J_bitCount {d : Nat} {x : Int32} {R : List PS} {Q : Option AV → List PS → Prop} (h : Q (some (vI (iI (bcn x : Nat)))) R) : Tri 286 d [vI x] R Q := by
  refine enJ6_bitCount_0f7a4 ?_
  unfold fJ6_bitCount_0f7a4_0
  have hx := nI_x x
  have hl : x.toBitVec.toNat < 4294967296 := by have := x.toBitVec.isLt; omega
  have hb : bcn x = cnt (fun i => x.toBitVec.toNat.testBit i) 32 := rfl
  rw [hb] at h
  generalize x.toBitVec.toNat = n at *
  subst hx
  obtain ⟨b1, b2, b3, b4, b5⟩ := bitc n hl _ _ _ _ _ rfl rfl rfl rfl rfl
  rw [← b5] at h
  have k1 : ∀ m, m < 4294967296 → ((nI m).toUInt32 >>> (((1 : Int32)).toUInt32 &&& Int32.toUInt32 31)).toInt32 = nI (m / 2) := fun m hm => ush m hm 1 (by omega)
  have k2 : ∀ m, m < 4294967296 → ((nI m).toUInt32 >>> (((2 : Int32)).toUInt32 &&& Int32.toUInt32 31)).toInt32 = nI (m / 4) := fun m hm => ush m hm 2 (by omega)
  have k4 : ∀ m, m < 4294967296 → ((nI m).toUInt32 >>> (((4 : Int32)).toUInt32 &&& Int32.toUInt32 31)).toInt32 = nI (m / 16) := fun m hm => ush m hm 4 (by omega)
  have k8 : ∀ m, m < 4294967296 → ((nI m).toUInt32 >>> (((8 : Int32)).toUInt32 &&& Int32.toUInt32 31)).toInt32 = nI (m / 256) := fun m hm => ush m hm 8 (by omega)
  have k16 : ∀ m, m < 4294967296 → ((nI m).toUInt32 >>> (((16 : Int32)).toUInt32 &&& Int32.toUInt32 31)).toInt32 = nI (m / 65536) := fun m hm => ush m hm 16 (by omega)
  rw [show (1431655765 : Int32) = nI 1431655765 from rfl, show (858993459 : Int32) = nI 858993459 from rfl, show (252645135 : Int32) = nI 252645135 from rfl]
  rw [k1 n hl, nI_an _ _ (by omega) (by omega), nI_sb b1]
  generalize hy : n - (n / 2 &&& 1431655765) = y at *
  rw [k2 y b2, nI_an _ _ b2 (by omega), nI_an _ _ (by omega) (by omega), nI_ad]
  generalize hz : (y &&& 858993459) + (y / 4 &&& 858993459) = z at *
  rw [k4 z (by omega), nI_ad, nI_an _ _ b3 (by omega)]
  have hv4 := lt_and (z + z / 16) 252645135 4294967296 b3
  generalize hv : (z + z / 16 &&& 252645135) = v at *
  rw [k8 v hv4, nI_ad, k16 _ (by omega), nI_ad, pk_andN (by omega) 6 (by decide), nI_iI]
  exact h
theorem J_signum {d : Nat} {v : Int} {x : Int32} {R : List PS} {Q : Option AV → List PS → Prop} (hx : x = iI v) (h0 : -2147483648 < v) (h1 : v < 2147483648) (h : Q (some (vI (iI (if 0 < v then 1 else if v < 0 then -1 else 0)))) R) : Tri 287 d [vI x] R Q := by
  subst hx
  refine enJ6_signum_0f7a4 ?_
  unfold fJ6_signum_0f7a4_0
  have hs : (((31 : Int32) &&& 31).toBitVec.smod 32).toNat = 31 := by decide
  have e1 : (iI v >>> ((31 : Int32) &&& 31)) = iI (v / 2147483648) := by
    apply Int32.toInt_inj.mp
    have := pk_shr (iI v) ((31 : Int32) &&& 31) 31 hs
    rw [this, iI_t (by omega) (by omega), iI_t (by omega) (by omega), Int.shiftRight_eq_div_pow]; rfl
  have e2 : ((-iI v).toUInt32 >>> ((31 : Int32).toUInt32 &&& Int32.toUInt32 31)).toInt32 = iI (if 0 < v then 1 else 0) := by
    have e3 : -iI v = nI ((-v) % 4294967296).toNat := by
      rw [iI_neg, nI_iI]
      apply Int32.toInt_inj.mp
      show (Int32.ofInt _).toInt = (Int32.ofInt _).toInt
      rw [Int32.toInt_ofInt, Int32.toInt_ofInt, show (((-v) % 4294967296).toNat : Int) = (-v) % 4294967296 by omega]
      show Int.bmod _ 4294967296 = Int.bmod _ 4294967296
      exact (Int.emod_bmod (x := -v) (n := 4294967296)).symm
    rw [e3]
    refine (ush ((-v) % 4294967296).toNat (by omega) 31 (by omega)).trans ?_
    rw [nI_iI]
    congr 1
    split <;> omega
  rw [e1, e2]
  by_cases c1 : 0 < v
  · rw [if_pos c1] at h ⊢; rw [show v / 2147483648 = 0 by omega]; exact h
  · rw [if_neg c1] at h ⊢
    by_cases c2 : v < 0
    · rw [if_pos c2] at h; rw [show v / 2147483648 = -1 by omega]; exact h
    · rw [if_neg c2] at h; rw [show v / 2147483648 = 0 by omega]; exact h
