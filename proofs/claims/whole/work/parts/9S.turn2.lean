/-! ===== TURN: how large it may be ===== -/
theorem prd_bd {a b A B : Int} (ha : -A ≤ a ∧ a ≤ A) (hb : -B ≤ b ∧ b ≤ B) : -(A * B) ≤ a * b ∧ a * b ≤ A * B := by
  have n1 : (a.natAbs : Int) ≤ A := by omega
  have n2 : (b.natAbs : Int) ≤ B := by omega
  have m : (a.natAbs : Int) * (b.natAbs : Int) ≤ A * B := Int.mul_le_mul n1 n2 (by omega) (by omega)
  rw [← Int.natCast_mul, ← Int.natAbs_mul] at m
  omega
theorem sqr_lt {d B : Int} (hB : 0 ≤ B) (h : d * d < B * B) : -B < d ∧ d < B := by
  refine ⟨?_, ?_⟩
  · refine Classical.byContradiction (fun c => ?_)
    have m : B * B ≤ (-d) * (-d) := Int.mul_le_mul (by omega) (by omega) hB (by omega)
    rw [Int.neg_mul_neg] at m; omega
  · refine Classical.byContradiction (fun c => ?_)
    have m : B * B ≤ d * d := Int.mul_le_mul (by omega) (by omega) hB (by omega)
    omega
theorem sqr_nn (d : Int) : 0 ≤ d * d := by
  rcases Int.le_total 0 d with c | c
  · exact Int.mul_nonneg c c
  · have := Int.mul_nonneg (show 0 ≤ -d by omega) (show 0 ≤ -d by omega)
    rw [Int.neg_mul_neg] at this; exact this
theorem sZ_one (g : Nat → Nat) : ∀ n, sZ g (fun _ => 1) n = (cnt (fun p => decide (g p ≠ 32)) n : Nat)
  | 0 => rfl
  | n + 1 => by
    have ih := sZ_one g n
    rw [cnt_s]
    by_cases c : g n = 32
    · rw [sZ_n c, decide_eq_false (by omega), ih]; simp
    · rw [sZ_s c, decide_eq_true c, ih]; simp
/-- stars that fit two points of a picture lie no farther than they -/
theorem fit_near {X Y : Nat → Int} {l : List SR} {o : Int} {i j a b : Nat} (hX : (0 ≤ X i ∧ X i ≤ 1395) ∧ 0 ≤ Y i ∧ Y i ≤ 1395) (hX' : (0 ≤ X j ∧ X j ≤ 1395) ∧ 0 ≤ Y j ∧ Y j ≤ 1395) (ho : o ≤ 5) (h : fitS X Y l o i j a b) : (-202 ≤ (nthS l a).2.1 - (nthS l b).2.1 ∧ (nthS l a).2.1 - (nthS l b).2.1 ≤ 202) ∧ -202 ≤ (nthS l a).2.2.1 - (nthS l b).2.2.1 ∧ (nthS l a).2.2.1 - (nthS l b).2.2.1 ≤ 202 := by
  unfold fitS at h
  have p1 := prd_bd (a := X i - X j) (b := X i - X j) (A := 1395) (B := 1395) (by omega) (by omega)
  have p2 := prd_bd (a := Y i - Y j) (b := Y i - Y j) (A := 1395) (B := 1395) (by omega) (by omega)
  have r1 := rt_ok ((X i - X j) * (X i - X j) + (Y i - Y j) * (Y i - Y j)).toNat
  have r2 := rt_ok (100 * (dsq l a b).toNat)
  have pl : plen X Y i j ≤ 1973 := by
    unfold plen
    refine Classical.byContradiction (fun c => ?_)
    have m : 1973 * 1973 ≤ rt ((X i - X j) * (X i - X j) + (Y i - Y j) * (Y i - Y j)).toNat * rt ((X i - X j) * (X i - X j) + (Y i - Y j) * (Y i - Y j)).toNat := Nat.mul_le_mul (by omega) (by omega)
    have := r1.1
    omega
  have ab : ((lenS l a b : Nat) : Int) ≤ 2023 := by unfold abZ at h; split at h <;> omega
  have ab' : rt (100 * (dsq l a b).toNat) ≤ 2023 := by unfold lenS at ab; omega
  have m2 : (rt (100 * (dsq l a b).toNat) + 1) * (rt (100 * (dsq l a b).toNat) + 1) ≤ 2024 * 2024 := Nat.mul_le_mul (by omega) (by omega)
  have lt := r2.2
  have d1 : dsq l a b < 203 * 203 := by omega
  have s1 := sqr_nn ((nthS l a).2.1 - (nthS l b).2.1)
  have s2 := sqr_nn ((nthS l a).2.2.1 - (nthS l b).2.2.1)
  unfold dsq at d1
  have q1 := sqr_lt (d := (nthS l a).2.1 - (nthS l b).2.1) (B := 203) (by omega) (by omega)
  have q2 := sqr_lt (d := (nthS l a).2.2.1 - (nthS l b).2.2.1) (B := 203) (by omega) (by omega)
  omega
theorem tur_bd {y : SY} {z k : Int} {p w i : Nat} {l : List SR} {f : Nat → Int} (hK : LtK p w z (y.2.1 p)) (hF : FOK f) (hl : l.length ≤ 32) (hs : ∀ s ∈ l, StOK s) (hi : i < (nmP y z k l f p).1.length) : let g := nmAt y z k l f p i; (3 ≤ tN g ∧ tN g ≤ 6) ∧ (0 ≤ tA g (qX y z k f p) (qY y z k f p) 6 ∧ tA g (qX y z k f p) (qY y z k f p) 6 ≤ 840682800) ∧ (-1219140720 ≤ tC g (qX y z k f p) (qY y z k f p) (oV l f g) (oW l f g) 6 ∧ tC g (qX y z k f p) (qY y z k f p) (oV l f g) (oW l f g) 6 ≤ 1219140720) ∧ (-1219140720 ≤ tS g (qX y z k f p) (qY y z k f p) (oV l f g) (oW l f g) 6 ∧ tS g (qX y z k f p) (qY y z k f p) (oV l f g) (oW l f g) 6 ≤ 1219140720) ∧ (-8370 ≤ sZ g (qX y z k f p) 6 ∧ sZ g (qX y z k f p) 6 ≤ 8370) ∧ (-8370 ≤ sZ g (qY y z k f p) 6 ∧ sZ g (qY y z k f p) 6 ≤ 8370) ∧ (-65880 ≤ sZ g (oV l f g) 6 ∧ sZ g (oV l f g) 6 ≤ 65880) ∧ (-65880 ≤ sZ g (oW l f g) 6 ∧ sZ g (oW l f g) 6 ≤ 65880) := by
  intro g
  have hA : aP y z k p ≤ 6 ∧ aP y z k p ≤ nP y z k p := m6_le (nP y z k p)
  have hqA : ∀ q, g q ≠ 32 → q < aP y z k p := fun q c => Classical.byContradiction (fun e => c (by show nmAt y z k l f p i q = 32; unfold nmAt; rw [if_neg e]))
  have hX : ∀ q, g q ≠ 32 → (0 ≤ qX y z k f p q ∧ qX y z k f p q ≤ 1395) ∧ 0 ≤ qY y z k f p q ∧ qY y z k f p q ≤ 1395 := fun q c => qX_bd hK hF (by have := hqA q c; omega)
  have nc := nmd_cnt (X := qX y z k f p) (Y := qY y z k f p) (l := l) (o := f 4) (A := aP y z k p) (i := i) hl hA.1 hi
  have ok := (nmP_ok hi).1
  have h4 := hF.2.2.2.2.1
  have h8 := hF.2.2.2.2.2.2.2.2.1
  have h9 := hF.2.2.2.2.2.2.2.2.2.1
  have gl : ∀ q, g q ≠ 32 → g q < l.length := fun q c => by
    rcases nmAt_lt (y := y) (z := z) (k := k) (l := l) (f := f) (p := p) (i := i) (q := q) hi with e | e
    · exact absurd e c
    · exact e
  have near1 : ∀ a b, a < b → g a ≠ 32 → g b ≠ 32 → (-202 ≤ (nthS l (g a)).2.1 - (nthS l (g b)).2.1 ∧ (nthS l (g a)).2.1 - (nthS l (g b)).2.1 ≤ 202) ∧ -202 ≤ (nthS l (g a)).2.2.1 - (nthS l (g b)).2.2.1 ∧ (nthS l (g a)).2.2.1 - (nthS l (g b)).2.2.1 ≤ 202 := by
    intro a b hab ca cb
    have ea : g a = ((nmP y z k l f p).1.getD i (fun _ => 32)) a := by show nmAt y z k l f p i a = _; unfold nmAt; rw [if_pos (hqA a ca)]
    have eb : g b = ((nmP y z k l f p).1.getD i (fun _ => 32)) b := by show nmAt y z k l f p i b = _; unfold nmAt; rw [if_pos (hqA b cb)]
    rcases (ok b (hqA b cb)).2 with e | e
    · exact absurd (eb.trans e) cb
    · rcases e a hab with e1 | e1
      · exact absurd (ea.trans e1) ca
      · rw [← ea, ← eb] at e1
        exact fit_near (hX a ca) (hX b cb) h4.2 e1.2.1
  have near : ∀ a b, g a ≠ 32 → g b ≠ 32 → (-202 ≤ (nthS l (g a)).2.1 - (nthS l (g b)).2.1 ∧ (nthS l (g a)).2.1 - (nthS l (g b)).2.1 ≤ 202) ∧ -202 ≤ (nthS l (g a)).2.2.1 - (nthS l (g b)).2.2.1 ∧ (nthS l (g a)).2.2.1 - (nthS l (g b)).2.2.1 ≤ 202 := by
    intro a b ca cb
    rcases Nat.lt_trichotomy a b with c | c | c
    · exact near1 a b c ca cb
    · subst c; omega
    · have := near1 b a c cb ca; omega
  have bX : ∀ q, g q ≠ 32 → -8370 ≤ tZc g (qX y z k f p) q ∧ tZc g (qX y z k f p) q ≤ 8370 := fun q c => by
    unfold tZc tN
    rw [Int.mul_comm, sZ_lin]
    exact sZ_bd (B := 1395) (by omega) 6 (fun r _ cr => by have := hX q c; have := hX r cr; omega)
  have bY : ∀ q, g q ≠ 32 → -8370 ≤ tZc g (qY y z k f p) q ∧ tZc g (qY y z k f p) q ≤ 8370 := fun q c => by
    unfold tZc tN
    rw [Int.mul_comm, sZ_lin]
    exact sZ_bd (B := 1395) (by omega) 6 (fun r _ cr => by have := hX q c; have := hX r cr; omega)
  have bV : ∀ q, g q ≠ 32 → -12138 ≤ tZc g (oV l f g) q ∧ tZc g (oV l f g) q ≤ 12138 := fun q c => by
    unfold tZc tN
    rw [Int.mul_comm, sZ_lin]
    exact sZ_bd (B := 2023) (by omega) 6 (fun r _ cr => by have := near q r c cr; unfold oV; omega)
  have bW : ∀ q, g q ≠ 32 → -12138 ≤ tZc g (oW l f g) q ∧ tZc g (oW l f g) q ≤ 12138 := fun q c => by
    unfold tZc tN
    rw [Int.mul_comm, sZ_lin]
    exact sZ_bd (B := 2023) (by omega) 6 (fun r _ cr => by have := near q r c cr; unfold oW; omega)
  refine ⟨?_, ⟨?_, ?_⟩, ?_, ?_, ?_, ?_, ?_, ?_⟩
  · unfold tN
    rw [sZ_one, show cnt (fun q => decide (g q ≠ 32)) 6 = (nmS (qX y z k f p) (qY y z k f p) l (f 4) (aP y z k p)).2 from nc.1]
    omega
  · exact sZ_nn 6 (fun q _ => by have := sqr_nn (tZc g (qX y z k f p) q); have := sqr_nn (tZc g (qY y z k f p) q); omega)
  · exact (sZ_bd (B := 140113800) (by omega) 6 (fun q _ c => by
      have := prd_bd (bX q c) (bX q c)
      have := prd_bd (bY q c) (bY q c)
      omega)).2
  · exact sZ_bd (B := 203190120) (by omega) 6 (fun q _ c => by
      have := prd_bd (bX q c) (bV q c)
      have := prd_bd (bY q c) (bW q c)
      omega)
  · exact sZ_bd (B := 203190120) (by omega) 6 (fun q _ c => by
      have := prd_bd (bX q c) (bW q c)
      have := prd_bd (bY q c) (bV q c)
      omega)
  · exact sZ_bd (B := 1395) (by omega) 6 (fun q _ c => by have := hX q c; omega)
  · exact sZ_bd (B := 1395) (by omega) 6 (fun q _ c => by have := hX q c; omega)
  · exact sZ_bd (B := 10980) (by omega) 6 (fun q _ c => by have := hs _ (nthS_mem (gl q c)); unfold StOK at this; unfold oV; omega)
  · exact sZ_bd (B := 10980) (by omega) 6 (fun q _ c => by have := hs _ (nthS_mem (gl q c)); unfold StOK at this; unfold oW; omega)
