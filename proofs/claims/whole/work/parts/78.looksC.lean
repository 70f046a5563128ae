/-! ===== LOOKS, the class ===== -/
theorem C_isSeenFrom {d j s : Nat} {x y : Int} {l : List SR} {f : Nat → Int} {P0 P1 P2 : PS} {R : List PS} {Q : Option AV → List PS → Prop} (hx : 0 ≤ x ∧ x ≤ 999) (hy : 0 ≤ y ∧ y ≤ 999) (hs : s < l.length) (hS : SsC j l P2) (hT : TdC j f P2) (hF : FOK f) (h : Q (some (vI (oI (seeS l f x y s)))) (P0 :: P1 :: P2 :: R)) : Tri 10 (d + 1) [vR 2 j 0, vI (iI x), vI (iI y), vI (iI (s : Nat))] (P0 :: P1 :: P2 :: R) Q := by
  have hl := hS.2.1
  have e := hS.2.2.2 s hs
  have t := (hS.2.2.1 _ (nthS_mem hs)).2
  have b := see_bd (l := l) (s := s) hF hx hy t.1 t.2.1
  refine enX0_isSeenFrom ?_
  unfold fX0_isSeenFrom_0
  refine C_has rfl (by omega) hS ?_
  dsimp only [hx3, rI]
  rw [oI_dec]
  refine ⟨fun c => absurd (by omega) c, fun _ => ?_⟩
  simp (disch := omega) only [iI_in, iI_cl, Int.toNat_natCast]
  rw [e.2.1, iI_sub]
  refine ⟨by omega, C_square rfl ?_⟩
  dsimp only [hx3, rI]
  rw [e.2.2.1, iI_sub]
  refine ⟨by omega, C_square rfl ?_⟩
  dsimp only [hx3, rI]
  rw [show gI P2 j 8 = iI (f 2) from hT 2 (by omega)]
  refine C_square rfl ?_
  dsimp only [hx3, rI]
  have e1 : ((nthS l s).2.1 - x) * ((nthS l s).2.1 - x) = (x - (nthS l s).2.1) * (x - (nthS l s).2.1) := by
    rw [show (nthS l s).2.1 - x = -(x - (nthS l s).2.1) by omega, Int.neg_mul_neg]
  have e2 : ((nthS l s).2.2.1 - y) * ((nthS l s).2.2.1 - y) = (y - (nthS l s).2.2.1) * (y - (nthS l s).2.2.1) := by
    rw [show (nthS l s).2.2.1 - y = -(y - (nthS l s).2.2.1) by omega, Int.neg_mul_neg]
  rw [iI_add, e1, e2]
  simp (disch := omega) only [iI_lt]
  refine ⟨fun c => ⟨Or.inl trivial, ?_⟩, fun c => ⟨Or.inr trivial, ?_⟩⟩
  · rw [show seeS l f x y s = false from decide_eq_false (by omega)] at h; exact h
  · rw [show seeS l f x y s = true from decide_eq_true (by omega)] at h; exact h
theorem cnt_cut (p : Nat → Bool) {n : Nat} : ∀ m, n ≤ m → cnt (fun s => decide (s < n) && p s) m = cnt p n
  | 0, h => by rw [show n = 0 by omega]; rfl
  | m + 1, h => by
    by_cases c : n = m + 1
    · subst c
      exact cnt_congr (m + 1) (fun i hi => by simp [hi])
    · show cnt (fun s => decide (s < n) && p s) m + (if (decide (m < n) && p m) = true then 1 else 0) = _
      rw [cnt_cut p m (by omega), decide_eq_false (by omega)]; simp
def LkC (a : LA) (P : PS) : Prop := gI P 0 4 = iI a.1 ∧ gI P 0 5 = iI a.2.1 ∧ gI P 0 6 = iI a.2.2
/-- T has enough for a LOOK -/
def okA (l : List SR) (f : Nat → Int) (T : Nat → Bool) (i j : Nat) : Prop := (if (cnt (seeS l f (lkX f i) (lkX f j)) l.length : Int) < f 7 then (cnt (seeS l f (lkX f i) (lkX f j)) l.length : Int) else f 7) ≤ (cnt (fun s => T s && seeS l f (lkX f i) (lkX f j) s) l.length : Nat)
abbrev svI : List Nat := [4, 5, 6, 7]
abbrev svA : List Nat := [0, 1]
theorem C_lookFrom {d jb i j n : Nat} {l : List SR} {f : Nat → Int} {a : LA} {W : Nat → WE} {x y : Int32} {P0 P1 P2 P3 P4 P5 : PS} {R : List PS} {Q : Option AV → List PS → Prop} (hx : x = iI (lkX f i)) (hy : y = iI (lkX f j)) (hi : i < nLk f) (hj : j < nLk f) (hS : SsC jb l P2) (hT : TdC jb f P2) (hF : FOK f) (hA : LkC a P5) (ha : -1 ≤ a.2.2 ∧ a.2.2 ≤ 999999) (hW : WtC n W P5) (hn : n ≤ 99)
    (h : ∀ n' W' P', LkC (lkS l f i j a) P' → WtC n' W' P' → n' ≤ n + 1 → (∀ T, (∀ k, k < n' → met T (W' k)) ↔ ((∀ k, k < n → met T (W k)) ∧ okA l f T i j)) → Fr svI [] svA [] P5 P' → Q none (P0 :: P1 :: P2 :: P3 :: P4 :: P' :: R)) : Tri 88 (d + 2) [vR 5 0 0, vR 2 jb 0, vI x, vI y] (P0 :: P1 :: P2 :: P3 :: P4 :: P5 :: R) Q := by
  subst hx hy
  have hl := hS.2.1
  have hix := lkX_bd hF hi
  have hjx := lkX_bd hF hj
  have h7 := hF.2.2.2.2.2.2.2.1
  refine enX8_lookFrom ?_
  unfold fX8_lookFrom_0
  have key : ∀ m s : Nat, ∀ x : Int32, s + m = l.length → (∀ k, k < 32 → bz x k = (decide (k < s) && seeS l f (lkX f i) (lkX f j) k)) → cX8_lookFrom_6 (0, 0, 0, 0) (d + 1) jb (iI (lkX f i)) (iI (lkX f j)) x (iI (s : Nat)) P0 P1 P2 P3 P4 P5 R Q := by
    intro m
    induction m with
    | zero =>
      intro s x hs hb
      have es : s = l.length := by omega
      subst es
      have ec : bcn x = cnt (seeS l f (lkX f i) (lkX f j)) l.length := by
        unfold bcn
        rw [cnt_congr 32 (fun k hk => hb k hk), cnt_cut _ 32 hl]
      have hc := cnt_le (seeS l f (lkX f i) (lkX f j)) l.length
      have em : ∀ (T : Nat → Bool) (v : Int), met T (x, v) ↔ v ≤ (cnt (fun s => T s && seeS l f (lkX f i) (lkX f j) s) l.length : Nat) := fun T v => by
        unfold met
        dsimp only
        have e : cnt (fun s => bz x s && T s) 32 = cnt (fun s => T s && seeS l f (lkX f i) (lkX f j) s) l.length := by
          rw [← cnt_cut (fun s => T s && seeS l f (lkX f i) (lkX f j) s) 32 hl]
          refine cnt_congr 32 (fun k hk => ?_)
          rw [hb k hk, Bool.and_assoc, Bool.and_comm (seeS l f (lkX f i) (lkX f j) k) (T k)]
        rw [e]
      refine gX8_lookFrom_6 ?_
      unfold fX8_lookFrom_6
      rw [hS.1]
      simp (disch := omega) only [iI_le]
      refine ⟨fun _ => J_bitCount ?_, fun c => absurd (by omega) c⟩
      dsimp only [hx6, rI]
      rw [ec, show gI P2 jb 13 = iI (f 7) from hT 7 (by omega)]
      have f1 : gI (sI P5 0 4 (gI P5 0 4 + 1)) 0 6 = iI a.2.2 := hA.2.2
      have f2 : gI (sI P5 0 4 (gI P5 0 4 + 1)) 0 5 = iI a.2.1 := hA.2.1
      have f3 : gI P5 0 4 = iI a.1 := hA.1
      rw [f1, f2, f3]
      simp only [show (1 : Int32) = iI 1 from rfl, show (1000 : Int32) = iI 1000 from rfl, iI_neg, iI_add, iI_mul]
      simp (disch := omega) only [iI_le, iI_lt, iI_eq]
      have W1 : ∀ {A : PS}, (∀ i, gA A 0 0 i = gA P5 0 0 i) → (∀ i, gA A 0 1 i = gA P5 0 1 i) → gI A 0 7 = gI P5 0 7 → WtC n W A := fun e0 e1 e7 => ⟨by rw [e7]; exact hW.1, hW.2.1, fun k hk => by rw [e0, e1]; exact hW.2.2 k hk⟩
      have fin : ∀ {A : PS} {v : Int32} {w : Int}, v = iI w → w = (if (cnt (seeS l f (lkX f i) (lkX f j)) l.length : Int) < f 7 then (cnt (seeS l f (lkX f i) (lkX f j)) l.length : Int) else f 7) → LkC (lkS l f i j a) A → WtC n W A → Fr svI [] svA [] P5 A → Tri 89 (d + 1) [vR 5 0 0, vI x, vI v] (P0 :: P1 :: P2 :: P3 :: P4 :: A :: R) (fun r2 h2 => hx6 h2 fun P0_2 P1_2 P2_2 P3_2 P4_2 P5_2 R_2 => rV r2 (Q none (P0_2 :: P1_2 :: P2_2 :: P3_2 :: P4_2 :: P5_2 :: R_2))) := by
        intro A v w hv hw lA wA fA
        subst hv
        refine C_addWant wA hn (by rw [hw]; split <;> omega) (fun n' W' P' w' hn' hq f' => ?_)
        dsimp only [hx6, rV]
        refine h n' W' P' ⟨?_, ?_, ?_⟩ w' hn' (fun T => ?_) (fA.trs (f'.mono (by simp) (by simp) (by simp) (by simp)))
        · rw [f'.2.1 _ (by simp)]; exact lA.1
        · rw [f'.2.1 _ (by simp)]; exact lA.2.1
        · rw [f'.2.1 _ (by simp)]; exact lA.2.2
        · rw [hq T, em, hw]; rfl
      have cu : ∀ c : Int, iI (cnt (seeS l f (lkX f i) (lkX f j)) l.length : Nat) = iI c → True := fun _ _ => trivial
      refine ⟨fun c => ?_, fun c => ⟨fun c1 => ?_, fun c1 => ?_⟩⟩
      · have hh : hol l f i j = false := decide_eq_false (by omega)
        refine fin (w := if f 7 < (cnt (seeS l f (lkX f i) (lkX f j)) l.length : Int) then f 7 else (cnt (seeS l f (lkX f i) (lkX f j)) l.length : Int)) (by split <;> rfl) (by split <;> split <;> omega) ⟨rfl, ?_, ?_⟩ (W1 (fun _ => rfl) (fun _ => rfl) rfl) (Fr.rf.sI (by simp))
        · unfold lkS; rw [hh]; exact f2
        · unfold lkS; rw [hh]; exact f1
      · have hh : hol l f i j = true := decide_eq_true (by omega)
        refine fin (w := if f 7 < (cnt (seeS l f (lkX f i) (lkX f j)) l.length : Int) then f 7 else (cnt (seeS l f (lkX f i) (lkX f j)) l.length : Int)) (by split <;> rfl) (by split <;> split <;> omega) ⟨rfl, ?_, ?_⟩ (W1 (fun _ => rfl) (fun _ => rfl) rfl) ((Fr.rf.sI (by simp)).sI (by simp))
        · unfold lkS; rw [hh]; rfl
        · unfold lkS; rw [hh]; simp only [if_true]; rw [if_neg (by omega)]; exact f1
      · have hh : hol l f i j = true := decide_eq_true (by omega)
        refine fin (w := if f 7 < (cnt (seeS l f (lkX f i) (lkX f j)) l.length : Int) then f 7 else (cnt (seeS l f (lkX f i) (lkX f j)) l.length : Int)) (by split <;> rfl) (by split <;> split <;> omega) ⟨rfl, ?_, ?_⟩ (W1 (fun _ => rfl) (fun _ => rfl) rfl) (((Fr.rf.sI (by simp)).sI (by simp)).sI (by simp))
        · unfold lkS; rw [hh]; rfl
        · unfold lkS; rw [hh]; simp only [if_true]; rw [if_pos (by omega)]; rfl
    | succ m ih =>
      intro s x hs hb
      refine gX8_lookFrom_6 ?_
      unfold fX8_lookFrom_6
      rw [hS.1]
      simp (disch := omega) only [iI_le]
      refine ⟨fun c => absurd c (by omega), fun _ => C_isSeenFrom hix hjx (by omega) hS hT hF ?_⟩
      dsimp only [hx6, rI]
      rw [oI_z]
      refine ⟨fun c => ?_, fun c => ?_⟩
      · rw [show (1 : Int32) = iI 1 from rfl, iI_add]
        refine ih (s + 1) x (by omega) (fun k hk => ?_)
        rw [hb k hk]
        by_cases ck : k = s
        · rw [ck, c]; simp
        · rw [show decide (k < s + 1) = decide (k < s) from decide_eq_decide.mpr (by omega)]
      · have := ih (s + 1) (x ||| ((1 : Int32) <<< ((iI (s : Nat)) &&& 31))) (by omega) (fun k hk => by
          rw [bz_or, hb k hk, bz_1 s (by omega) k hk]
          by_cases ck : k = s
          · rw [ck, show seeS l f (lkX f i) (lkX f j) s = true by simpa using c]; simp
          · rw [show decide (k < s + 1) = decide (k < s) from decide_eq_decide.mpr (by omega), decide_eq_false ck, Bool.or_false])
        have e : iI (s : Nat) + 1 = iI ((s + 1 : Nat)) := iI_add (s : Nat) 1
        rw [e]; exact this
  exact key l.length 0 0 (by omega) (fun k hk => by rw [bz_0]; simp)
/-- all LOOKS are known -/
def LoC (l : List SR) (f : Nat → Int) (P : PS) : Prop := gI P 0 10 ≠ 0 → LkC (lkA l f (nLk f)) P ∧ ∃ n W, WtC n W P ∧ ∀ T, (∀ k, k < n → met T (W k)) ↔ ∀ i j, i < nLk f → j < nLk f → okA l f T i j
theorem C_lookAround {d jb : Nat} {l : List SR} {f : Nat → Int} {P0 P1 P2 P3 P4 P5 : PS} {R : List PS} {Q : Option AV → List PS → Prop} (hS : SsC jb l P2) (hT : TdC jb f P2) (hF : FOK f) (hL : LoC l f P5) (h : ∀ P', gI P' 0 10 ≠ 0 → LoC l f P' → Fr [10, 4, 5, 6, 7] [] svA [] P5 P' → Q none (P0 :: P1 :: P2 :: P3 :: P4 :: P' :: R)) : Tri 87 (d + 3) [vR 5 0 0, vR 2 jb 0] (P0 :: P1 :: P2 :: P3 :: P4 :: P5 :: R) Q := by
  have hN := nLk_ok hF
  refine enX8_lookAround ?_
  unfold fX8_lookAround_0
  refine ⟨fun c => ⟨Or.inr rfl, ?_⟩, fun c => h P5 c hL Fr.rf⟩
  have e12 : gI P2 jb 12 = iI (f 6) := hT 6 (by omega)
  have f0 : Fr [10, 4, 5, 6, 7] [] svA [] P5 (sI (sI (sI (sI (sI P5 0 10 (1 : Int32)) 0 4 (0 : Int32)) 0 5 (0 : Int32)) 0 6 (-1 : Int32)) 0 7 (0 : Int32)) := ((((Fr.rf.sI (by simp)).sI (by simp)).sI (by simp)).sI (by simp)).sI (by simp)
  have l0 : LkC (0, 0, -1) (sI (sI (sI (sI (sI P5 0 10 (1 : Int32)) 0 4 (0 : Int32)) 0 5 (0 : Int32)) 0 6 (-1 : Int32)) 0 7 (0 : Int32)) := ⟨rfl, rfl, rfl⟩
  have w0 : WtC 0 (fun _ => (0, 0)) (sI (sI (sI (sI (sI P5 0 10 (1 : Int32)) 0 4 (0 : Int32)) 0 5 (0 : Int32)) 0 6 (-1 : Int32)) 0 7 (0 : Int32)) := ⟨rfl, by omega, fun i hi => absurd hi (Nat.not_lt_zero i)⟩
  have k0 : gI (sI (sI (sI (sI (sI P5 0 10 (1 : Int32)) 0 4 (0 : Int32)) 0 5 (0 : Int32)) 0 6 (-1 : Int32)) 0 7 (0 : Int32)) 0 10 = 1 := rfl
  generalize sI (sI (sI (sI (sI P5 0 10 (1 : Int32)) 0 4 (0 : Int32)) 0 5 (0 : Int32)) 0 6 (-1 : Int32)) 0 7 (0 : Int32) = A0 at *
  have eX : ∀ i : Nat, iI (i : Nat) * iI (f 6) = iI (lkX f i) := fun i => by rw [iI_mul]; unfold lkX; rw [hN.2.2.1, Int.natCast_mul]
  have out : ∀ i : Nat, i ≤ 10 → nLk f ≤ i → 999 < lkX f i ∧ lkX f i ≤ 9990 := fun i h1 h2 => by
    have := (hN.2.2.2.2.2 i (by omega))
    have : ¬ i * stp6 f ≤ 999 := fun q => by have := this.mpr q; omega
    have : i * stp6 f ≤ 10 * 999 := Nat.mul_le_mul (by omega) (by omega)
    unfold lkX; omega
  have inner : ∀ i, i < nLk f → (∀ n W A, LkC (lkA l f (i + 1)) A → gI A 0 10 = 1 → WtC n W A → n ≤ (i + 1) * 10 → (∀ T, (∀ k, k < n → met T (W k)) ↔ ∀ i' j', i' < i + 1 → j' < nLk f → okA l f T i' j') → Fr [10, 4, 5, 6, 7] [] svA [] P5 A → cX8_lookAround_35 (0, 0, 0, 0) (d + 2) jb (iI ((i + 1 : Nat))) P0 P1 P2 P3 P4 A R Q) → ∀ m j n : Nat, ∀ W A, j + m = nLk f → LkC (lkR l f i j (lkA l f i)) A → gI A 0 10 = 1 → WtC n W A → n ≤ i * 10 + j → (∀ T, (∀ k, k < n → met T (W k)) ↔ ((∀ i' j', i' < i → j' < nLk f → okA l f T i' j') ∧ ∀ j', j' < j → okA l f T i j')) → Fr [10, 4, 5, 6, 7] [] svA [] P5 A → cX8_lookAround_55 (0, 0, 0, 0) (d + 2) jb (iI (i : Nat)) (iI (j : Nat)) P0 P1 P2 P3 P4 A R Q := by
    intro i hi nxt m
    induction m with
    | zero =>
      intro j n W A hj lA kA wA hn hq fA
      have ej : j = nLk f := by omega
      have go : cX8_lookAround_35 (0, 0, 0, 0) (d + 2) jb (iI (i : Nat) + 1) P0 P1 P2 P3 P4 A R Q := by
        rw [show (1 : Int32) = iI 1 from rfl, iI_add]
        refine nxt n W A ?_ kA wA (by omega) (fun T => ?_) fA
        · rw [ej] at lA; exact lA
        · rw [hq T]
          refine ⟨fun q i' j' h1 h2 => ?_, fun q => ⟨fun i' j' h1 h2 => q i' j' (by omega) h2, fun j' h1 => q i j' (by omega) (by omega)⟩⟩
          by_cases ci : i' = i
          · rw [ci]; exact q.2 j' (by omega)
          · exact q.1 i' j' (by omega) h2
      have o := out j (by omega) (by omega)
      refine gX8_lookAround_55 ?_
      unfold fX8_lookAround_55
      rw [e12, eX, eX]
      simp (disch := omega) only [show (10 : Int32) = iI 10 from rfl, show (999 : Int32) = iI 999 from rfl, iI_le, iI_lt]
      exact ⟨fun _ => go, fun _ => ⟨fun _ => go, fun c => absurd (by omega) c⟩⟩
    | succ m ih =>
      intro j n W A hj lA kA wA hn hq fA
      have hjx := lkX_bd hF (show j < nLk f by omega)
      refine gX8_lookAround_55 ?_
      unfold fX8_lookAround_55
      rw [e12, eX, eX]
      simp (disch := omega) only [show (10 : Int32) = iI 10 from rfl, show (999 : Int32) = iI 999 from rfl, iI_le, iI_lt]
      refine ⟨fun c => absurd c (by omega), fun _ => ⟨fun c => absurd c (by omega), fun _ => ?_⟩⟩
      refine C_lookFrom rfl rfl hi (by omega) hS hT hF lA (lkR_bd hF hi (lkA_bd l hF i (by omega)) j (by omega)) wA (by omega) (fun n' W' P' l' w' hn' hq' f' => ?_)
      dsimp only [hx6, rV]
      rw [show (1 : Int32) = iI 1 from rfl, iI_add]
      refine ih (j + 1) n' W' P' (by omega) l' (by rw [f'.2.1 _ (by simp)]; exact kA) w' (by omega) (fun T => ?_) (fA.trs (f'.mono (by simp) (by simp) (by simp) (by simp)))
      rw [hq' T, hq T]
      refine ⟨fun q => ⟨q.1.1, fun j' h1 => ?_⟩, fun q => ⟨⟨q.1, fun j' h1 => q.2 j' (by omega)⟩, q.2 j (by omega)⟩⟩
      by_cases cj : j' = j
      · rw [cj]; exact q.2
      · exact q.1.2 j' (by omega)
  have outer : ∀ m i n : Nat, ∀ W A, i + m = nLk f → LkC (lkA l f i) A → gI A 0 10 = 1 → WtC n W A → n ≤ i * 10 → (∀ T, (∀ k, k < n → met T (W k)) ↔ ∀ i' j', i' < i → j' < nLk f → okA l f T i' j') → Fr [10, 4, 5, 6, 7] [] svA [] P5 A → cX8_lookAround_35 (0, 0, 0, 0) (d + 2) jb (iI (i : Nat)) P0 P1 P2 P3 P4 A R Q := by
    intro m
    induction m with
    | zero =>
      intro i n W A hi lA kA wA hn hq fA
      have ei : i = nLk f := by omega
      have o := out i (by omega) (by omega)
      have go : Q none (P0 :: P1 :: P2 :: P3 :: P4 :: A :: R) := h A (by rw [kA]; decide) (fun _ => ⟨by rw [ei] at lA; exact lA, n, W, wA, fun T => by rw [hq T, ei]⟩) fA
      refine gX8_lookAround_35 ?_
      unfold fX8_lookAround_35
      rw [e12, eX]
      simp (disch := omega) only [show (10 : Int32) = iI 10 from rfl, show (999 : Int32) = iI 999 from rfl, iI_le, iI_lt]
      exact ⟨fun _ => go, fun _ => ⟨fun _ => go, fun c => absurd (by omega) c⟩⟩
    | succ m ih =>
      intro i n W A hi lA kA wA hn hq fA
      have hix := lkX_bd hF (show i < nLk f by omega)
      refine gX8_lookAround_35 ?_
      unfold fX8_lookAround_35
      rw [e12, eX]
      simp (disch := omega) only [show (10 : Int32) = iI 10 from rfl, show (999 : Int32) = iI 999 from rfl, iI_le, iI_lt]
      refine ⟨fun c => absurd c (by omega), fun _ => ⟨fun c => absurd c (by omega), fun _ => ?_⟩⟩
      exact inner i (by omega) (fun n' W' A' h1 h2 h3 h4 h5 h6 => ih (i + 1) n' W' A' (by omega) h1 h2 h3 h4 h5 h6) (nLk f) 0 n W A (by omega) lA kA wA (by omega) (fun T => by rw [hq T]; exact ⟨fun q => ⟨q, fun j' h => absurd h (Nat.not_lt_zero j')⟩, fun q => q.1⟩) fA
  exact outer (nLk f) 0 0 _ A0 (by omega) l0 k0 w0 (by omega) (fun T => ⟨fun _ i' j' h1 => absurd h1 (Nat.not_lt_zero i'), fun _ k hk => absurd hk (Nat.not_lt_zero k)⟩) f0
theorem C_looks {d k : Nat} {x : Int32} {l : List SR} {f : Nat → Int} {P0 P1 P2 P3 P4 P5 P6 P7 P8 P9 P10 P11 P12 : PS} {R : List PS} {Q : Option AV → List PS → Prop} (hk : gO P12 0 11 = some k) (hS : SsC k l P2) (hT : TdC k f P2) (hF : FOK f) (hL : LoC l f P5) (h : ∀ P', LoC l f P' → Fr [10, 4, 5, 6, 7] [] svA [] P5 P' → Q (some (vI (iI (looksS l f x)))) (P0 :: P1 :: P2 :: P3 :: P4 :: P' :: P6 :: P7 :: P8 :: P9 :: P10 :: P11 :: P12 :: R)) : Tri 149 (d + 4) [vR 12 0 0, vI x] (P0 :: P1 :: P2 :: P3 :: P4 :: P5 :: P6 :: P7 :: P8 :: P9 :: P10 :: P11 :: P12 :: R) Q := by
  refine enX11_looks ?_
  unfold fX11_looks_0
  rw [hk]
  simp only [oM]
  refine C_lookAround hS hT hF hL (fun P' k' l' f' => ?_)
  dsimp only [hx13, rV]
  have e := (l' k').1
  rw [e.1, e.2.1, e.2.2]
  have := h P' l' f'
  unfold looksS at this
  refine ⟨fun c => ?_, fun c => ⟨fun c1 => ?_, fun c1 => ⟨fun c2 => ?_, fun c2 => ?_⟩⟩⟩
  · rw [if_pos c] at this; exact this
  · rw [if_neg c, if_pos c1] at this; exact this
  · rw [if_neg c, if_neg c1, if_pos c2] at this; exact this
  · rw [if_neg c, if_neg c1, if_neg c2] at this; exact this
