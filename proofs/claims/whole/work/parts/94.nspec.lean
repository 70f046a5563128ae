/-! ===== NAMINGS: what they are ===== -/
def plen (X Y : Nat → Int) (i j : Nat) : Nat := rt ((X i - X j) * (X i - X j) + (Y i - Y j) * (Y i - Y j)).toNat
def fitS (X Y : Nat → Int) (l : List SR) (o : Int) (i j a b : Nat) : Prop := abZ ((plen X Y i j : Nat) - (lenS l a b : Nat)) ≤ 10 * o
def sg (v : Int) : Int := if 0 < v then 1 else if v < 0 then -1 else 0
def crP (X Y : Nat → Int) (i j r : Nat) : Int := (X j - X i) * (Y r - Y i) - (Y j - Y i) * (X r - X i)
def crS (l : List SR) (a b c : Nat) : Int := ((nthS l b).2.1 - (nthS l a).2.1) * ((nthS l c).2.2.1 - (nthS l a).2.2.1) - ((nthS l b).2.2.1 - (nthS l a).2.2.1) * ((nthS l c).2.1 - (nthS l a).2.1)
def lieS (X Y : Nat → Int) (l : List SR) (i j r a b c : Nat) : Prop := sg (crP X Y i j r) = sg (crS l a b c)
/-- the name of the point i goes with those before it -/
def okR (X Y : Nat → Int) (l : List SR) (o : Int) (i : Nat) (v : Nat → Nat) : Prop := v i = 32 ∨ ∀ p, p < i → v p = 32 ∨ (v p ≠ v i ∧ fitS X Y l o p i (v p) (v i) ∧ ∀ q, p < q → q < i → v q = 32 ∨ lieS X Y l p q i (v p) (v q) (v i))
def unC (v : Nat → Nat) (n : Nat) : Nat := cnt (fun p => decide (v p = 32)) n
def cat {α : Type} (F : Nat → List α) : Nat → List α
  | 0 => []
  | n + 1 => cat F n ++ F n
/-- all rows that go on from the first i names, in their order: u may be left without a name -/
noncomputable def ext1 (X Y : Nat → Int) (l : List SR) (o : Int) (u : Nat) : Nat → Nat → (Nat → Nat) → List (Nat → Nat)
  | 0, i, v => if unC v i = u then [v] else []
  | m + 1, i, v => cat (fun s => if dcd (unC (upN v i s) (i + 1) ≤ u ∧ okR X Y l o i (upN v i s)) = true then ext1 X Y l o u m (i + 1) (upN v i s) else []) l.length ++ (if dcd (unC (upN v i 32) (i + 1) ≤ u ∧ okR X Y l o i (upN v i 32)) = true then ext1 X Y l o u m (i + 1) (upN v i 32) else [])
/-- all NAMINGS of g of the A points -/
noncomputable def nmg (X Y : Nat → Int) (l : List SR) (o : Int) (A g : Nat) : List (Nat → Nat) := (ext1 X Y l o (A - g) A 0 (fun _ => 32)).take 200
noncomputable def nmF (X Y : Nat → Int) (l : List SR) (o : Int) (A : Nat) : Nat → List (Nat → Nat) × Nat
  | 0 => ([], 0)
  | 1 => ([], 0)
  | 2 => ([], 0)
  | g + 3 => if (nmg X Y l o A (g + 3)).length = 0 then nmF X Y l o A (g + 2) else (nmg X Y l o A (g + 3), g + 3)
/-- the NAMINGS, and how many POINTS they name -/
noncomputable def nmS (X Y : Nat → Int) (l : List SR) (o : Int) (A : Nat) : List (Nat → Nat) × Nat := nmF X Y l o A A
/-! ===== the Model: lengths and signs ===== -/
/-- the points' places -/
noncomputable def qX (y : SY) (z k : Int) (f : Nat → Int) (p i : Nat) : Int := (dt (y.2.1 p) z (ptD y z k p i)).1 * f 1
noncomputable def qY (y : SY) (z k : Int) (f : Nat → Int) (p i : Nat) : Int := (dt (y.2.1 p) z (ptD y z k p i)).2.1 * f 1
theorem ptD_lt {y : SY} {z k : Int} {p i : Nat} (hi : i < nP y z k p) : ptD y z k p i < nD (y.2.1 p) z := (nth_ok (p := ptB y z k p) (nD (y.2.1 p) z) hi).1
theorem qX_bd {y : SY} {z k : Int} {f : Nat → Int} {p i w : Nat} (hK : LtK p w z (y.2.1 p)) (hF : FOK f) (hi : i < nP y z k p) : (0 ≤ qX y z k f p i ∧ qX y z k f p i ≤ 1395) ∧ 0 ≤ qY y z k f p i ∧ qY y z k f p i ≤ 1395 := by
  have b := dt_ok hK.2.2.2.1 hK.2.2.1.1 (ptD_lt hi)
  have h1 := hF.2.1
  unfold qX qY
  exact ⟨⟨Int.mul_nonneg (by omega) (by omega), Int.le_trans (Int.mul_le_mul b.1.2 h1.2 (by omega) (by omega)) (by omega)⟩, Int.mul_nonneg (by omega) (by omega), Int.le_trans (Int.mul_le_mul b.2.1.2 h1.2 (by omega) (by omega)) (by omega)⟩
theorem LaM.at {y : SY} {z k : Int} {p : Nat} {P : PS} (h : LaM y z k p P) {i : Nat} (hi : i < nP y z k p) : ∃ e o, e < 140 ∧ o < 140 ∧ gA P 0 42 i = iI (e : Nat) ∧ gA P 0 35 e = iI (o : Nat) ∧ DtM o (dt (y.2.1 p) z (ptD y z k p i)) P := by
  have h1 := ptD_lt hi
  have h2 := (nD_le (y.2.1 p) z).1
  obtain ⟨o, o1, o2, o3⟩ := h.1.at h1
  exact ⟨ptD y z k p i, o, by omega, o1, h.2.2.2 i hi, o2, o3⟩
section PT
variable {d p : Nat} {y : SY} {z k : Int} {f : Nat → Int} {P : PS} {R : List PS} {Q : Option AV → List PS → Prop}
theorem M_pointX {i : Nat} {x : Int32} (hx : x = iI (i : Nat)) (hL : LaM y z k p P) (hi : i < nP y z k p) (h1 : gA P 0 12 1 = iI (f 1)) (h : Q (some (vI (iI (qX y z k f p i)))) (P :: R)) : Tri 215 d [vR 0 0 0, vI x] (P :: R) Q := by
  subst hx
  have h12 := nP_le y z k p
  obtain ⟨e, o, he, ho, g1, g2, g3⟩ := hL.at hi
  refine enX12_pointX ?_
  unfold fX12_pointX_0
  rw [iI_cl (a := (i : Nat)) (by omega) (by omega), Int.toNat_natCast, g1, iI_cl (a := (e : Nat)) (by omega) (by omega), Int.toNat_natCast, g2, iI_cl (a := (o : Nat)) (by omega) (by omega), Int.toNat_natCast, g3.1, show ((1 : Int32)).toNatClampNeg = 1 from rfl, h1, iI_mul]
  exact ⟨vpk (by omega) (by omega), vpk he (by omega), vpk ho (by omega), vpk (k := 1) (by omega) (by omega), h⟩
theorem M_pointY {i : Nat} {x : Int32} (hx : x = iI (i : Nat)) (hL : LaM y z k p P) (hi : i < nP y z k p) (h1 : gA P 0 12 1 = iI (f 1)) (h : Q (some (vI (iI (qY y z k f p i)))) (P :: R)) : Tri 216 d [vR 0 0 0, vI x] (P :: R) Q := by
  subst hx
  have h12 := nP_le y z k p
  obtain ⟨e, o, he, ho, g1, g2, g3⟩ := hL.at hi
  refine enX12_pointY ?_
  unfold fX12_pointY_0
  rw [iI_cl (a := (i : Nat)) (by omega) (by omega), Int.toNat_natCast, g1, iI_cl (a := (e : Nat)) (by omega) (by omega), Int.toNat_natCast, g2, iI_cl (a := (o : Nat)) (by omega) (by omega), Int.toNat_natCast, g3.2.1, show ((1 : Int32)).toNatClampNeg = 1 from rfl, h1, iI_mul]
  exact ⟨vpk (by omega) (by omega), vpk he (by omega), vpk ho (by omega), vpk (k := 1) (by omega) (by omega), h⟩
end PT
theorem M_pointLength {d p w i j : Nat} {y : SY} {z k : Int} {f : Nat → Int} {x v : Int32} {P : PS} {R : List PS} {Q : Option AV → List PS → Prop} (hx : x = iI (i : Nat)) (hv : v = iI (j : Nat)) (hL : LaM y z k p P) (hK : LtK p w z (y.2.1 p)) (hF : FOK f) (hi : i < nP y z k p) (hj : j < nP y z k p) (h1 : gA P 0 12 1 = iI (f 1)) (h : Q (some (vI (iI (plen (qX y z k f p) (qY y z k f p) i j : Nat)))) (P :: R)) : Tri 217 (d + 2) [vR 0 0 0, vI x, vI v] (P :: R) Q := by
  subst hx hv
  have bi := qX_bd hK hF hi
  have bj := qX_bd hK hF hj
  refine enX12_pointLength ?_
  unfold fX12_pointLength_0
  refine M_pointX (f := f) rfl hL hi h1 ?_
  dsimp only [hx1, rI]
  refine M_pointX (f := f) rfl hL hj h1 ?_
  dsimp only [hx1, rI]
  refine M_pointY (f := f) rfl hL hi h1 ?_
  dsimp only [hx1, rI]
  refine M_pointY (f := f) rfl hL hj h1 ?_
  dsimp only [hx1, rI]
  rw [iI_sub, iI_sub]
  refine M_lengthOf rfl rfl (by omega) (by omega) ?_
  dsimp only [hx1, rI]
  exact h
/-- the lengths are laid out -/
def LeM (X Y : Nat → Int) (l : List SR) (A : Nat) (P : PS) : Prop := (∀ a b, a < l.length → b < l.length → gA P 0 44 (32 * a + b) = iI (lenS l a b : Nat)) ∧ ∀ i j, i < A → j < A → gA P 0 45 (6 * i + j) = iI (plen X Y i j : Nat)
def m6 (n : Nat) : Nat := if n < 6 then n else 6
theorem m6_le (n : Nat) : m6 n ≤ 6 ∧ m6 n ≤ n := by unfold m6; split <;> omega
theorem LaM.fr {y : SY} {z k : Int} {p : Nat} {P P' : PS} {is ls as bs : List Nat} (h : LaM y z k p P) (hf : Fr is ls as bs P P') (h1 : 39 ∉ is) (h2 : 43 ∉ is) (g1 : 31 ∉ as) (g2 : 32 ∉ as) (g3 : 30 ∉ as) (g4 : 33 ∉ as) (g5 : 37 ∉ as) (g6 : 35 ∉ as) (g7 : 34 ∉ as) (g8 : 42 ∉ as) : LaM y z k p P' :=
  ⟨⟨by rw [hf.2.1 _ h1]; exact h.1.1, fun e he => by
    have := h.1.2.1 e he
    unfold DtM at this ⊢
    rw [hf.2.2.2.1 _ _ g1, hf.2.2.2.1 _ _ g2, hf.2.2.2.1 _ _ g3, hf.2.2.2.1 _ _ g4, hf.2.2.2.1 _ _ g5]; exact this, fun i hi => by rw [hf.2.2.2.1 _ _ g6]; exact h.1.2.2 i hi⟩, fun e he => by rw [hf.2.2.2.1 _ _ g7]; exact h.2.1 e he, by rw [hf.2.1 _ h2]; exact h.2.2.1, fun i hi => by rw [hf.2.2.2.1 _ _ g8]; exact h.2.2.2 i hi⟩
theorem M_layLengths {d p w : Nat} {y : SY} {z k : Int} {l : List SR} {f : Nat → Int} {P : PS} {R : List PS} {Q : Option AV → List PS → Prop} (hB : BoM l f P) (hF : FOK f) (hL : LaM y z k p P) (hK : LtK p w z (y.2.1 p)) (h : ∀ P', LeM (qX y z k f p) (qY y z k f p) l (m6 (nP y z k p)) P' → Fr [] [] [44, 45] [] P P' → Q none (P' :: R)) : Tri 221 (d + 3) [vR 0 0 0] (P :: R) Q := by
  have hl := hB.1.2.1
  have h12 := nP_le y z k p
  refine enX12_layLengths ?_
  unfold fX12_layLengths_0
  have BB : ∀ {A : PS}, Fr [] [] [44, 45] [] P A → BoM l f A := fun g => hB.fr g (by simp) (by simp) (by simp) (by simp) (by simp)
  have LL : ∀ {A : PS}, Fr [] [] [44, 45] [] P A → LaM y z k p A := fun g => hL.fr g (by simp) (by simp) (by simp) (by simp) (by simp) (by simp) (by simp) (by simp) (by simp) (by simp)
  have e6 : ∀ n : Nat, n ≤ 100 → ((6 : Int32) ≤ iI (n : Nat) ↔ 6 ≤ n) := fun n hn => by rw [show (6 : Int32) = iI 6 from rfl, iI_le (by omega) (by omega) (by omega) (by omega)]; omega
  -- the points' lengths
  have pin : ∀ (i : Nat), i < m6 (nP y z k p) → (∀ A, Fr [] [] [44, 45] [] P A → (∀ a b, a < l.length → b < l.length → gA A 0 44 (32 * a + b) = iI (lenS l a b : Nat)) → (∀ u v, u < i + 1 → v < m6 (nP y z k p) → gA A 0 45 (6 * u + v) = iI (plen (qX y z k f p) (qY y z k f p) u v : Nat)) → cX12_layLengths_51 (0, 0, 0, 0) (d + 2) (iI ((i + 1 : Nat))) A R Q) → ∀ (m j : Nat) (A : PS), j + m = m6 (nP y z k p) → Fr [] [] [44, 45] [] P A → (∀ a b, a < l.length → b < l.length → gA A 0 44 (32 * a + b) = iI (lenS l a b : Nat)) → (∀ u v, (u < i ∧ v < m6 (nP y z k p)) ∨ (u = i ∧ v < j) → gA A 0 45 (6 * u + v) = iI (plen (qX y z k f p) (qY y z k f p) u v : Nat)) → cX12_layLengths_67 (0, 0, 0, 0) (d + 2) (iI (i : Nat)) (iI (j : Nat)) A R Q := by
    intro i hi out m
    have m6l := m6_le (nP y z k p)
    induction m with
    | zero =>
      intro j A hj fA sA' pA
      have go : cX12_layLengths_51 (0, 0, 0, 0) (d + 2) (iI (i : Nat) + 1) A R Q := by
        rw [show iI (i : Nat) + 1 = iI ((i + 1 : Nat)) from iI_add (i : Nat) 1]
        exact out A fA sA' (fun u v hu hv => pA u v (by omega))
      refine gX12_layLengths_67 ?_
      unfold fX12_layLengths_67
      rw [(LL fA).2.2.1, iI_le (by omega) (by omega) (by omega) (by omega), e6 j (by omega)]
      refine ⟨fun _ => go, fun q => ⟨fun _ => go, fun q1 => ?_⟩⟩
      unfold m6 at hj
      split at hj <;> omega
    | succ m ih =>
      intro j A hj fA sA' pA
      refine gX12_layLengths_67 ?_
      unfold fX12_layLengths_67
      rw [(LL fA).2.2.1, iI_le (by omega) (by omega) (by omega) (by omega), e6 j (by omega)]
      refine ⟨fun q => absurd q (by omega), fun _ => ⟨fun q => absurd q (by omega), fun _ => M_pointLength rfl rfl (LL fA) hK hF (by omega) (by omega) ((BB fA).2 1 (by omega)) ?_⟩⟩
      dsimp only [hx1, rI]
      have eo : (6 : Int32) * iI (i : Nat) + iI (j : Nat) = iI ((6 * i + j : Nat)) := by rw [show (6 : Int32) = iI 6 from rfl, iI_mul, iI_add]; congr 1
      rw [eo, iI_cl (a := ((6 * i + j : Nat) : Int)) (by omega) (by omega), Int.toNat_natCast, show iI (j : Nat) + 1 = iI ((j + 1 : Nat)) from iI_add (j : Nat) 1]
      refine ⟨vpk (by omega) (by omega), ih (j + 1) _ (by omega) (fA.sA (by simp)) sA' (fun u v huv => ?_)⟩
      rw [gA_sA, if_pos rfl, if_pos rfl]
      by_cases c : 6 * u + v = 6 * i + j
      · have : u = i ∧ v = j := by omega
        rw [if_pos c, this.1, this.2]
      · rw [if_neg c]; exact pA u v (by omega)
  have pout : ∀ (m i : Nat) (A : PS), i + m = m6 (nP y z k p) → Fr [] [] [44, 45] [] P A → (∀ a b, a < l.length → b < l.length → gA A 0 44 (32 * a + b) = iI (lenS l a b : Nat)) → (∀ u v, u < i → v < m6 (nP y z k p) → gA A 0 45 (6 * u + v) = iI (plen (qX y z k f p) (qY y z k f p) u v : Nat)) → cX12_layLengths_51 (0, 0, 0, 0) (d + 2) (iI (i : Nat)) A R Q := by
    intro m
    have m6l := m6_le (nP y z k p)
    induction m with
    | zero =>
      intro i A hi fA sA' pA
      have go : Q none (A :: R) := h A ⟨sA', fun u v hu hv => pA u v (by omega) hv⟩ fA
      refine gX12_layLengths_51 ?_
      unfold fX12_layLengths_51
      rw [(LL fA).2.2.1, iI_le (by omega) (by omega) (by omega) (by omega), e6 i (by omega)]
      refine ⟨fun _ => go, fun q => ⟨fun _ => go, fun q1 => ?_⟩⟩
      unfold m6 at hi
      split at hi <;> omega
    | succ m ih =>
      intro i A hi fA sA' pA
      refine gX12_layLengths_51 ?_
      unfold fX12_layLengths_51
      rw [(LL fA).2.2.1, iI_le (by omega) (by omega) (by omega) (by omega), e6 i (by omega)]
      exact ⟨fun q => absurd q (by omega), fun _ => ⟨fun q => absurd q (by omega), fun _ => pin i (by omega) (fun A' f' s' p' => ih (i + 1) A' (by omega) f' s' p') (m6 (nP y z k p)) 0 A (by omega) fA sA' (fun u v huv => pA u v (by omega) (by omega))⟩⟩
  -- the stars' lengths
  have sin : ∀ (a : Nat), a < l.length → (∀ A, Fr [] [] [44, 45] [] P A → (∀ u v, u < a + 1 → v < l.length → gA A 0 44 (32 * u + v) = iI (lenS l u v : Nat)) → cX12_layLengths_2 (0, 0, 0, 0) (d + 2) (iI ((a + 1 : Nat))) A R Q) → ∀ (m b : Nat) (A : PS), b + m = l.length → Fr [] [] [44, 45] [] P A → (∀ u v, (u < a ∧ v < l.length) ∨ (u = a ∧ v < b) → gA A 0 44 (32 * u + v) = iI (lenS l u v : Nat)) → cX12_layLengths_12 (0, 0, 0, 0) (d + 2) (iI (a : Nat)) (iI (b : Nat)) A R Q := by
    intro a ha out m
    induction m with
    | zero =>
      intro b A hb fA sA'
      refine gX12_layLengths_12 ?_
      unfold fX12_layLengths_12
      rw [(BB fA).1.1, iI_le (by omega) (by omega) (by omega) (by omega), show iI (a : Nat) + 1 = iI ((a + 1 : Nat)) from iI_add (a : Nat) 1]
      exact ⟨fun _ => out A fA (fun u v hu hv => sA' u v (by omega)), fun q => absurd (by omega) q⟩
    | succ m ih =>
      intro b A hb fA sA'
      refine gX12_layLengths_12 ?_
      unfold fX12_layLengths_12
      rw [(BB fA).1.1, iI_le (by omega) (by omega) (by omega) (by omega)]
      refine ⟨fun q => absurd q (by omega), fun _ => M_starLength rfl rfl ha (by omega) (BB fA) ?_⟩
      dsimp only [hx1, rI]
      have eo : (32 : Int32) * iI (a : Nat) + iI (b : Nat) = iI ((32 * a + b : Nat)) := by rw [show (32 : Int32) = iI 32 from rfl, iI_mul, iI_add]; congr 1
      rw [eo, iI_cl (a := ((32 * a + b : Nat) : Int)) (by omega) (by omega), Int.toNat_natCast, show iI (b : Nat) + 1 = iI ((b + 1 : Nat)) from iI_add (b : Nat) 1]
      refine ⟨vpk (by omega) (by omega), ih (b + 1) _ (by omega) (fA.sA (by simp)) (fun u v huv => ?_)⟩
      rw [gA_sA, if_pos rfl, if_pos rfl]
      by_cases c : 32 * u + v = 32 * a + b
      · have : u = a ∧ v = b := by omega
        rw [if_pos c, this.1, this.2]
      · rw [if_neg c]; exact sA' u v (by omega)
  have sout : ∀ (m a : Nat) (A : PS), a + m = l.length → Fr [] [] [44, 45] [] P A → (∀ u v, u < a → v < l.length → gA A 0 44 (32 * u + v) = iI (lenS l u v : Nat)) → cX12_layLengths_2 (0, 0, 0, 0) (d + 2) (iI (a : Nat)) A R Q := by
    intro m
    induction m with
    | zero =>
      intro a A ha fA sA'
      refine gX12_layLengths_2 ?_
      unfold fX12_layLengths_2
      rw [(BB fA).1.1, iI_le (by omega) (by omega) (by omega) (by omega)]
      exact ⟨fun _ => pout (m6 (nP y z k p)) 0 A (by omega) fA (fun u v hu hv => sA' u v (by omega) hv) (fun u v hu => absurd hu (Nat.not_lt_zero u)), fun q => absurd (by omega) q⟩
    | succ m ih =>
      intro a A ha fA sA'
      refine gX12_layLengths_2 ?_
      unfold fX12_layLengths_2
      rw [(BB fA).1.1, iI_le (by omega) (by omega) (by omega) (by omega)]
      exact ⟨fun q => absurd q (by omega), fun _ => sin a (by omega) (fun A' f' s' => ih (a + 1) A' (by omega) f' s') l.length 0 A (by omega) fA (fun u v huv => sA' u v (by omega) (by omega))⟩
  exact sout l.length 0 P (by omega) Fr.rf (fun u v hu => absurd hu (Nat.not_lt_zero u))
theorem plen_bd {X Y : Nat → Int} {i j : Nat} (hi : (0 ≤ X i ∧ X i ≤ 1395) ∧ 0 ≤ Y i ∧ Y i ≤ 1395) (hj : (0 ≤ X j ∧ X j ≤ 1395) ∧ 0 ≤ Y j ∧ Y j ≤ 1395) : plen X Y i j ≤ 3892050 := by
  have b1 := sq_bd (a := X i - X j) (B := 1395) (by omega) (by omega)
  have b2 := sq_bd (a := Y i - Y j) (B := 1395) (by omega) (by omega)
  have := rt_le ((X i - X j) * (X i - X j) + (Y i - Y j) * (Y i - Y j)).toNat
  unfold plen; omega
theorem M_fit {d i j a b A : Nat} {X Y : Nat → Int} {l : List SR} {f : Nat → Int} {x1 x2 x3 x4 : Int32} {P : PS} {R : List PS} {Q : Option AV → List PS → Prop} (e1 : x1 = iI (i : Nat)) (e2 : x2 = iI (j : Nat)) (e3 : x3 = iI (a : Nat)) (e4 : x4 = iI (b : Nat)) (hi : i < A) (hj : j < A) (hA : A ≤ 6) (ha : a < l.length) (hb : b < l.length) (hB : BoM l f P) (hF : FOK f) (hX : ∀ i, i < A → (0 ≤ X i ∧ X i ≤ 1395) ∧ 0 ≤ Y i ∧ Y i ≤ 1395) (hE : LeM X Y l A P) (hy : fitS X Y l (f 4) i j a b → Q (some (vI (oI true))) (P :: R)) (hn : ¬ fitS X Y l (f 4) i j a b → Q (some (vI (oI false))) (P :: R)) : Tri 222 (d + 1) [vR 0 0 0, vI x1, vI x2, vI x3, vI x4] (P :: R) Q := by
  subst e1 e2 e3 e4
  have hl := hB.1.2.1
  have h4 := hF.2.2.2.2.1
  have lb := lenS_bd hB.1.2.2.1 ha hb
  have pb := plen_bd (hX i hi) (hX j hj)
  refine enX12_fit ?_
  unfold fX12_fit_0
  have o1 : (6 : Int32) * iI (i : Nat) + iI (j : Nat) = iI ((6 * i + j : Nat)) := by rw [show (6 : Int32) = iI 6 from rfl, iI_mul, iI_add]; congr 1
  have o2 : (32 : Int32) * iI (a : Nat) + iI (b : Nat) = iI ((32 * a + b : Nat)) := by rw [show (32 : Int32) = iI 32 from rfl, iI_mul, iI_add]; congr 1
  rw [o1, o2, iI_cl (a := ((6 * i + j : Nat) : Int)) (by omega) (by omega), iI_cl (a := ((32 * a + b : Nat) : Int)) (by omega) (by omega), Int.toNat_natCast, Int.toNat_natCast, hE.1 a b ha hb, hE.2 i j hi hj, iI_sub]
  refine ⟨vpk (by omega) (by omega), vpk (by omega) (by omega), M_much rfl (by omega) (by omega) ?_⟩
  dsimp only [hx1, rI]
  have b3 := abZ_nn ((plen X Y i j : Nat) - (lenS l a b : Nat))
  have b4 : abZ ((plen X Y i j : Nat) - (lenS l a b : Nat)) ≤ 203492250 := abZ_le (by omega) (by omega)
  rw [show ((4 : Int32)).toNatClampNeg = 4 from rfl, hB.2 4 (by omega), show (10 : Int32) = iI 10 from rfl, iI_mul, iI_lt (by omega) (by omega) (by omega) (by omega)]
  exact ⟨vpk (k := 4) (by omega) (by omega), fun c => ⟨Or.inl rfl, hn (fun q => by unfold fitS at q; omega)⟩, fun c => ⟨Or.inr rfl, hy (by unfold fitS; omega)⟩⟩
theorem M_sg {d : Nat} {v : Int} {x : Int64} {R : List PS} {Q : Option AV → List PS → Prop} (hx : x = iL v) (h0 : -9223372036854775808 ≤ v) (h1 : v < 9223372036854775808) (h : Q (some (vI (iI (sg v)))) R) : Tri 223 d [vL x] R Q := by
  subst hx
  refine enX12_sign ?_
  unfold fX12_sign_0
  rw [lcmp_le, lcmp_ge, show (0 : Int64) = iL 0 from rfl, iL_le (by omega) (by omega) (by omega) (by omega), iL_le (by omega) (by omega) (by omega) (by omega)]
  unfold sg at h
  refine ⟨fun c => ⟨fun c1 => ?_, fun c1 => ?_⟩, fun c => ?_⟩
  · rw [if_neg (by omega), if_neg (by omega)] at h; exact h
  · rw [if_neg (by omega), if_pos (by omega)] at h; exact h
  · rw [if_pos (by omega)] at h; exact h
theorem sg_bd (v : Int) : -1 ≤ sg v ∧ sg v ≤ 1 := by unfold sg; split; omega; split <;> omega
theorem mul_bd {a b A B : Int} (ha : -A ≤ a ∧ a ≤ A) (hb : -B ≤ b ∧ b ≤ B) (hA : 0 ≤ A) (hB : 0 ≤ B) : -(A * B) ≤ a * b ∧ a * b ≤ A * B := by
  have h1 : a.natAbs ≤ A.natAbs := by omega
  have h2 : b.natAbs ≤ B.natAbs := by omega
  have h3 := Nat.mul_le_mul h1 h2
  rw [← Int.natAbs_mul, ← Int.natAbs_mul] at h3
  have h4 : 0 ≤ A * B := Int.mul_nonneg hA hB
  omega
theorem M_lieAlike {d p w i j r a b c : Nat} {y : SY} {z k : Int} {l : List SR} {f : Nat → Int} {x1 x2 x3 x4 x5 x6 : Int32} {P : PS} {R : List PS} {Q : Option AV → List PS → Prop} (e1 : x1 = iI (i : Nat)) (e2 : x2 = iI (j : Nat)) (e3 : x3 = iI (r : Nat)) (e4 : x4 = iI (a : Nat)) (e5 : x5 = iI (b : Nat)) (e6 : x6 = iI (c : Nat)) (hL : LaM y z k p P) (hK : LtK p w z (y.2.1 p)) (hF : FOK f) (hB : BoM l f P) (hi : i < nP y z k p) (hj : j < nP y z k p) (hr : r < nP y z k p) (ha : a < l.length) (hb : b < l.length) (hc : c < l.length) (hy : lieS (qX y z k f p) (qY y z k f p) l i j r a b c → Q (some (vI (oI true))) (P :: R)) (hn : ¬ lieS (qX y z k f p) (qY y z k f p) l i j r a b c → Q (some (vI (oI false))) (P :: R)) : Tri 225 (d + 1) [vR 0 0 0, vI x1, vI x2, vI x3, vI x4, vI x5, vI x6] (P :: R) Q := by
  subst e1 e2 e3 e4 e5 e6
  have hl := hB.1.2.1
  have u1 := hB.2 1 (by omega)
  have bi := qX_bd hK hF hi
  have bj := qX_bd hK hF hj
  have br := qX_bd hK hF hr
  have sa := hB.1.2.2.2 a ha
  have sb' := hB.1.2.2.2 b hb
  have sc := hB.1.2.2.2 c hc
  have ta := hB.st ha
  have tb := hB.st hb
  have tc := hB.st hc
  refine enX12_lieAlike ?_
  unfold fX12_lieAlike_0
  refine M_pointX (f := f) rfl hL hj u1 ?_
  dsimp only [hx1, rI]
  refine M_pointX (f := f) rfl hL hi u1 ?_
  dsimp only [hx1, rI]
  refine M_pointY (f := f) rfl hL hj u1 ?_
  dsimp only [hx1, rI]
  refine M_pointY (f := f) rfl hL hi u1 ?_
  dsimp only [hx1, rI]
  refine M_pointX (f := f) rfl hL hr u1 ?_
  dsimp only [hx1, rI]
  refine M_pointX (f := f) rfl hL hi u1 ?_
  dsimp only [hx1, rI]
  refine M_pointY (f := f) rfl hL hr u1 ?_
  dsimp only [hx1, rI]
  refine M_pointY (f := f) rfl hL hi u1 ?_
  dsimp only [hx1, rI]
  simp (disch := omega) only [iI_sub, iI_l]
  refine enX12_cross ?_
  unfold fX12_cross_0
  dsimp only [hx1, rL]
  rw [iL_mul, iL_mul, iL_sub, iI_cl (a := (a : Nat)) (by omega) (by omega), iI_cl (a := (b : Nat)) (by omega) (by omega), iI_cl (a := (c : Nat)) (by omega) (by omega), Int.toNat_natCast, Int.toNat_natCast, Int.toNat_natCast, sa.1, sa.2.1, sb'.1, sb'.2.1, sc.1, sc.2.1]
  have va : vp_in (iI (a : Nat)) 32 := vpk (by omega) (by omega)
  have vb : vp_in (iI (b : Nat)) 32 := vpk (by omega) (by omega)
  have vc : vp_in (iI (c : Nat)) 32 := vpk (by omega) (by omega)
  refine ⟨vb, va, vb, va, vc, va, vc, va, ?_⟩
  simp (disch := omega) only [iI_sub, iI_l]
  refine enX12_cross ?_
  unfold fX12_cross_0
  dsimp only [hx1, rL]
  rw [iL_mul, iL_mul, iL_sub]
  have m1 := mul_bd (a := qX y z k f p j - qX y z k f p i) (b := qY y z k f p r - qY y z k f p i) (A := 1395) (B := 1395) (by omega) (by omega) (by omega) (by omega)
  have m2 := mul_bd (a := qY y z k f p j - qY y z k f p i) (b := qX y z k f p r - qX y z k f p i) (A := 1395) (B := 1395) (by omega) (by omega) (by omega) (by omega)
  have m3 := mul_bd (a := (nthS l b).2.1 - (nthS l a).2.1) (b := (nthS l c).2.2.1 - (nthS l a).2.2.1) (A := 999) (B := 999) (by omega) (by omega) (by omega) (by omega)
  have m4 := mul_bd (a := (nthS l b).2.2.1 - (nthS l a).2.2.1) (b := (nthS l c).2.1 - (nthS l a).2.1) (A := 999) (B := 999) (by omega) (by omega) (by omega) (by omega)
  refine M_sg rfl (by omega) (by omega) ?_
  dsimp only [hx1, rI]
  refine M_sg rfl (by omega) (by omega) ?_
  dsimp only [hx1, rI]
  have g1 := sg_bd (crP (qX y z k f p) (qY y z k f p) i j r)
  have g2 := sg_bd (crS l a b c)
  have ee : iI (sg (crP (qX y z k f p) (qY y z k f p) i j r)) = iI (sg (crS l a b c)) ↔ lieS (qX y z k f p) (qY y z k f p) l i j r a b c := by rw [iI_eq (by omega) (by omega) (by omega) (by omega)]; rfl
  exact ⟨fun q => ⟨Or.inl trivial, hn (fun g => q (ee.mpr g))⟩, fun q => ⟨Or.inr trivial, hy (ee.mp q)⟩⟩
