/-! ===== CHOSEN, the Model ===== -/
def enT (l : List SR) (f : Nat → Int) (T : Nat → Bool) : Prop := ∀ i j, i < nLk f → j < nLk f → okA l f T i j
theorem okA_n {l : List SR} {f : Nat → Int} {T : Nat → Bool} {i j : Nat} : okA l f T i j ↔ ((f 7 ≤ (cnt (seeS l f (lkX f i) (lkX f j)) l.length : Int) → f 7 ≤ (cnt (fun s => T s && seeS l f (lkX f i) (lkX f j) s) l.length : Nat)) ∧ (¬ f 7 ≤ (cnt (seeS l f (lkX f i) (lkX f j)) l.length : Int) → (cnt (seeS l f (lkX f i) (lkX f j)) l.length : Int) ≤ (cnt (fun s => T s && seeS l f (lkX f i) (lkX f j) s) l.length : Nat))) := by
  unfold okA
  by_cases c : f 7 ≤ (cnt (seeS l f (lkX f i) (lkX f j)) l.length : Int)
  · rw [if_neg (by omega)]; exact ⟨fun q => ⟨fun _ => q, fun c' => absurd c c'⟩, fun q => q.1 c⟩
  · rw [if_pos (by omega)]; exact ⟨fun q => ⟨fun c' => absurd c' c, fun _ => q⟩, fun q => q.2 c⟩
theorem M_isEnough {d : Nat} {w : Int32} {l : List SR} {f : Nat → Int} {P : PS} {R : List PS} {Q : Option AV → List PS → Prop} (hB : BoM l f P) (hF : FOK f) (hy : enT l f (bz w) → Q (some (vI (oI true))) (P :: R)) (hn : ¬ enT l f (bz w) → Q (some (vI (oI false))) (P :: R)) : Tri 259 (d + 2) [vR 0 0 0, vI w] (P :: R) Q := by
  have hl := hB.1.2.1
  have hN := nLk_ok hF
  have h7 := hF.2.2.2.2.2.2.2.1
  refine enX12_isEnough ?_
  unfold fX12_isEnough_0
  have e6 : ∀ k, lkX f k + f 6 = lkX f (k + 1) := fun k => by unfold lkX; rw [hN.2.2.1, Nat.succ_mul]; omega
  have out : ∀ i : Nat, i ≤ 10 → nLk f ≤ i → 999 < lkX f i ∧ lkX f i ≤ 9990 := fun i h1 h2 => by
    have := (hN.2.2.2.2.2 i (by omega))
    have : ¬ i * stp6 f ≤ 999 := fun q => by have := this.mpr q; omega
    have : i * stp6 f ≤ 10 * 999 := Nat.mul_le_mul (by omega) (by omega)
    unfold lkX; omega
  have inner : ∀ i, i < nLk f → ((∀ j, j < nLk f → okA l f (bz w) i j) → cX12_isEnough_2 (0, 0, 0, 0) (d + 1) w (iI (lkX f (i + 1))) P R Q) → ∀ m j : Nat, j + m = nLk f → (∀ j', j' < j → okA l f (bz w) i j') → cX12_isEnough_11 (0, 0, 0, 0) (d + 1) w (iI (lkX f i)) (iI (lkX f j)) P R Q := by
    intro i hi nxt m
    induction m with
    | zero =>
      intro j hj hq
      have o := out j (by omega) (by omega)
      refine gX12_isEnough_11 ?_
      unfold fX12_isEnough_11
      rw [show ((6 : Int32)).toNatClampNeg = 6 from rfl, hB.2 6 (by omega), iI_add, e6]
      simp (disch := omega) only [show (999 : Int32) = iI 999 from rfl, iI_lt]
      exact ⟨fun _ => ⟨vpk (k := 6) (by omega) (by omega), nxt (fun j' h => hq j' (by omega))⟩, fun c => absurd (by omega) c⟩
    | succ m ih =>
      intro j hj hq
      have hjx := lkX_bd hF (show j < nLk f by omega)
      have hix := lkX_bd hF hi
      refine gX12_isEnough_11 ?_
      unfold fX12_isEnough_11
      simp (disch := omega) only [show (999 : Int32) = iI 999 from rfl, iI_lt]
      refine ⟨fun c => absurd c (by omega), fun _ => M_seenFrom hix hjx hB hF ?_⟩
      dsimp only [hx1, rI]
      refine M_seenFrom hix hjx hB hF ?_
      dsimp only [hx1, rI]
      rw [snW_all l f _ _ _ hl, show ((7 : Int32)).toNatClampNeg = 7 from rfl, show ((6 : Int32)).toNatClampNeg = 6 from rfl, hB.2 7 (by omega), hB.2 6 (by omega), iI_add, e6]
      have hc := cnt_le (seeS l f (lkX f i) (lkX f j)) l.length
      have hc2 : snW l f (lkX f i) (lkX f j) (bz w) l.length ≤ l.length := cnt_le _ _
      have ho : okA l f (bz w) i j ↔ _ := okA_n
      have es : cnt (fun s => bz w s && seeS l f (lkX f i) (lkX f j) s) l.length = snW l f (lkX f i) (lkX f j) (bz w) l.length := rfl
      rw [es] at ho
      simp (disch := omega) only [iI_le]
      have go : okA l f (bz w) i j → cX12_isEnough_11 (0, 0, 0, 0) (d + 1) w (iI (lkX f i)) (iI (lkX f (j + 1))) P R Q := fun q => ih (j + 1) (by omega) (fun j' h => by
        by_cases cj : j' = j
        · rw [cj]; exact q
        · exact hq j' (by omega))
      have no : ¬ okA l f (bz w) i j → Q (some (vI (oI false))) (P :: R) := fun q => hn (fun g => q (g i j hi (by omega)))
      have v6 : vp_in (6 : Int32) 12 := vpk (k := 6) (by omega) (by omega)
      have v7 : vp_in (7 : Int32) 12 := vpk (k := 7) (by omega) (by omega)
      refine ⟨v7, fun c => ⟨v7, fun c1 => ⟨v6, go (ho.mpr ⟨fun _ => c1, fun c' => absurd c c'⟩)⟩, fun c1 => ⟨Or.inl trivial, no (fun q => c1 ((ho.mp q).1 c))⟩⟩, fun c => ⟨fun c1 => ⟨v6, go (ho.mpr ⟨fun c' => absurd c' c, fun _ => by omega⟩)⟩, fun c1 => ⟨Or.inl trivial, no (fun q => c1 (by have := (ho.mp q).2 c; omega))⟩⟩⟩
  have outer : ∀ m i : Nat, i + m = nLk f → (∀ i' j', i' < i → j' < nLk f → okA l f (bz w) i' j') → cX12_isEnough_2 (0, 0, 0, 0) (d + 1) w (iI (lkX f i)) P R Q := by
    intro m
    induction m with
    | zero =>
      intro i hi hq
      have o := out i (by omega) (by omega)
      refine gX12_isEnough_2 ?_
      unfold fX12_isEnough_2
      simp (disch := omega) only [show (999 : Int32) = iI 999 from rfl, iI_lt]
      exact ⟨fun _ => ⟨Or.inr trivial, hy (fun i' j' h1 h2 => hq i' j' (by omega) h2)⟩, fun c => absurd (by omega) c⟩
    | succ m ih =>
      intro i hi hq
      have hix := lkX_bd hF (show i < nLk f by omega)
      refine gX12_isEnough_2 ?_
      unfold fX12_isEnough_2
      simp (disch := omega) only [show (999 : Int32) = iI 999 from rfl, iI_lt]
      refine ⟨fun c => absurd c (by omega), fun _ => ?_⟩
      have := inner i (by omega) (fun q => ih (i + 1) (by omega) (fun i' j' h1 h2 => by
        by_cases ci : i' = i
        · rw [ci]; exact q j' h2
        · exact hq i' j' (by omega) h2)) (nLk f) 0 (by omega) (fun j' h => absurd h (Nat.not_lt_zero j'))
      rw [show lkX f 0 = 0 by unfold lkX; simp] at this
      exact this
  have := outer (nLk f) 0 (by omega) (fun i' j' h => absurd h (Nat.not_lt_zero i'))
  rw [show lkX f 0 = 0 by unfold lkX; simp] at this
  exact this
def on16 (v : Nat) : Nat := cnt (fun i => v.testBit i) 16
theorem M_ones {d v : Nat} {x : Int32} {R : List PS} {Q : Option AV → List PS → Prop} (hx : x = iI (v : Nat)) (hv : v < 65536) (h : Q (some (vI (iI (on16 v : Nat)))) R) : Tri 260 d [vI x] R Q := by
  subst hx
  refine enX12_ones ?_
  unfold fX12_ones_0
  have key : ∀ m k : Nat, k + m = 16 → cX12_ones_4 (0, 0, 0, 0) d (iI (v : Nat)) (iI (cnt (fun i => v.testBit i) k : Nat)) (iI (k : Nat)) R Q := by
    intro m
    induction m with
    | zero =>
      intro k hk
      have ek : k = 16 := by omega
      subst ek
      refine gX12_ones_4 ?_
      unfold fX12_ones_4
      simp (disch := omega) only [show (16 : Int32) = iI 16 from rfl, iI_le]
      exact ⟨fun _ => h, fun c => absurd (by omega) c⟩
    | succ m ih =>
      intro k hk
      refine gX12_ones_4 ?_
      unfold fX12_ones_4
      rw [bz_s _ (by omega), bz_nat v (by omega), oI_i]
      simp (disch := omega) only [show (16 : Int32) = iI 16 from rfl, iI_le, show (1 : Int32) = iI 1 from rfl, iI_add]
      refine ⟨fun c => absurd c (by omega), fun _ => ?_⟩
      have ih' := ih (k + 1) (by omega)
      have e : cnt (fun i => v.testBit i) (k + 1) = cnt (fun i => v.testBit i) k + (if v.testBit k = true then 1 else 0) := rfl
      rw [e] at ih'
      cases hb : v.testBit k with
      | true => rw [hb] at ih'; exact ih'
      | false => rw [hb] at ih'; exact ih'
  exact key 16 0 (by omega)
/-- v is what is CHOSEN: of all that have enough the fewest, and of these the least number -/
def IsCh (l : List SR) (f : Nat → Int) (v : Nat) : Prop := v < 2 ^ l.length ∧ enT l f (fun i => v.testBit i) ∧ ∀ u, u < 2 ^ l.length → enT l f (fun i => u.testBit i) → on16 v < on16 u ∨ (on16 v = on16 u ∧ v ≤ u)
theorem IsCh.uniq {l : List SR} {f : Nat → Int} {u v : Nat} (hu : IsCh l f u) (hv : IsCh l f v) : u = v := by
  have h1 := hu.2.2 v hv.1 hv.2.1
  have h2 := hv.2.2 u hu.1 hu.2.1
  omega
theorem okA_congr {l : List SR} {f : Nat → Int} {T U : Nat → Bool} (h : ∀ s, s < l.length → T s = U s) (i j : Nat) : okA l f T i j ↔ okA l f U i j := by
  unfold okA
  rw [cnt_congr (p := fun s => T s && seeS l f (lkX f i) (lkX f j) s) (q := fun s => U s && seeS l f (lkX f i) (lkX f j) s) l.length (fun s hs => by rw [h s hs])]
theorem enT_congr {l : List SR} {f : Nat → Int} {T U : Nat → Bool} (h : ∀ s, s < l.length → T s = U s) : enT l f T ↔ enT l f U := ⟨fun q i j h1 h2 => (okA_congr h i j).mp (q i j h1 h2), fun q i j h1 h2 => (okA_congr h i j).mpr (q i j h1 h2)⟩
theorem enT_all {l : List SR} {f : Nat → Int} {T : Nat → Bool} (h : ∀ s, s < l.length → T s = true) : enT l f T := fun i j _ _ => by
  unfold okA
  rw [cnt_congr (p := fun s => T s && seeS l f (lkX f i) (lkX f j) s) (q := seeS l f (lkX f i) (lkX f j)) l.length (fun s hs => by rw [h s hs]; rfl)]
  split <;> omega
theorem on16_full : ∀ n, n ≤ 16 → on16 (2 ^ n - 1) = n := by decide +kernel
theorem on16_lt {n : Nat} (hn : n ≤ 16) {u : Nat} (hu : u < 2 ^ n) : on16 u ≤ n := by
  unfold on16
  have e : cnt (fun i => u.testBit i) 16 = cnt (fun i => u.testBit i) n := by
    rw [← cnt_cut (fun i => u.testBit i) 16 hn]
    refine cnt_congr 16 (fun i hi => ?_)
    by_cases c : i < n
    · simp [c]
    · have : u.testBit i = false := Nat.testBit_lt_two_pow (Nat.lt_of_lt_of_le hu (Nat.pow_le_pow_right (by omega) (by omega)))
      simp [this]
  rw [e]; exact cnt_le _ _
theorem cnt_full {p : Nat → Bool} : ∀ n, n ≤ cnt p n → ∀ i, i < n → p i = true
  | 0, _, i, hi => absurd hi (Nat.not_lt_zero i)
  | n + 1, h, i, hi => by
    have h1 := cnt_le p n
    unfold cnt at h
    by_cases c : p n = true
    · by_cases ci : i = n
      · rw [ci]; exact c
      · rw [if_pos c] at h; exact cnt_full n (by omega) i (by omega)
    · rw [if_neg c] at h; omega
def chosenS (l : List SR) (v : Nat) (a : Int) : Int := if a < 0 ∨ 1 < a then -1 else if 16 < l.length then -2 else if a = 0 then (on16 v : Nat) else (v : Nat)
theorem one_sl : ∀ n, n ≤ 16 → (1 : Int32) <<< ((iI (n : Nat)) &&& 31) = iI ((2 ^ n : Nat)) := by decide +kernel
theorem M_chosen {d : Nat} {a : Int} {l : List SR} {f : Nat → Int} {P : PS} {R : List PS} {Q : Option AV → List PS → Prop} (ha : -2147483648 ≤ a ∧ a < 2147483648) (hB : BoM l f P) (hF : FOK f) (h : ∀ v, (¬ (a < 0 ∨ 1 < a) → l.length ≤ 16 → IsCh l f v) → Q (some (vI (iI (chosenS l v a)))) (P :: R)) : Tri 261 (d + 3) [vR 0 0 0, vI (iI a)] (P :: R) Q := by
  have hl := hB.1.2.1
  refine enX12_chosen ?_
  unfold fX12_chosen_0
  unfold chosenS at h
  rw [hB.1.1]
  simp (disch := omega) only [show (0 : Int32) = iI 0 from rfl, show (16 : Int32) = iI 16 from rfl, iI_lt, iI_le]
  by_cases c16 : l.length ≤ 16
  · have h2 : 2 ^ l.length ≤ 2 ^ 16 := Nat.pow_le_pow_right (by omega) c16
    have hpos : 0 < 2 ^ l.length := Nat.pow_pos (by omega)
    have a1 : (1 : Int32) = iI 1 := rfl
    have key : ¬ (a < 0 ∨ 1 < a) → ∀ m k v : Nat, k + m = 2 ^ l.length → v < 2 ^ l.length → enT l f (fun i => v.testBit i) → (∀ u, u < k → enT l f (fun i => u.testBit i) → on16 v < on16 u ∨ (on16 v = on16 u ∧ v ≤ u)) → (v < k ∨ v = 2 ^ l.length - 1) → cX12_chosen_34 (0, 0, 0, 0) (d + 2) (iI a) (iI (v : Nat)) (iI (k : Nat)) P R Q := by
      intro hna m
      induction m with
      | zero =>
        intro k v hk hv he hm hvk
        have ch : IsCh l f v := ⟨hv, he, fun u hu => hm u (by omega)⟩
        have hh := h v (fun _ _ => ch)
        rw [if_neg hna, if_neg (by omega)] at hh
        refine gX12_chosen_34 ?_
        unfold fX12_chosen_34
        rw [hB.1.1, one_sl _ c16]
        simp (disch := omega) only [iI_lit, iI_le, iI_eq]
        refine ⟨fun _ => ⟨fun c => ?_, fun c => M_ones rfl (by omega) ?_⟩, fun c => absurd (by omega) c⟩
        · rw [if_neg c] at hh; exact hh
        · dsimp only [hx1, rI]
          rw [if_pos c] at hh; exact hh
      | succ m ih =>
        intro k v hk hv he hm hvk
        have ok : on16 k ≤ 16 := cnt_le _ _
        have ov : on16 v ≤ 16 := cnt_le _ _
        have stay : (¬ on16 k < on16 v ∨ ¬ enT l f (fun i => k.testBit i)) → cX12_chosen_34 (0, 0, 0, 0) (d + 2) (iI a) (iI (v : Nat)) (iI (k : Nat) + 1) P R Q := fun hs => by
          rw [a1, iI_add]
          refine ih (k + 1) v (by omega) hv he (fun u hu hue => ?_) (by omega)
          by_cases cu : u = k
          · subst cu
            rcases hs with q | q
            · rcases hvk with g | g
              · omega
              · have e1 : on16 v = l.length := by rw [g]; exact on16_full _ c16
                have e2 := on16_lt c16 (show u < 2 ^ l.length by omega)
                -- the full set is the only one of its size
                have e3 : on16 u = l.length := by omega
                have e4 : u = v := by
                  rw [g]
                  apply Nat.eq_of_testBit_eq
                  intro i
                  rw [Nat.testBit_two_pow_sub_one]
                  by_cases ci : i < l.length
                  · rw [decide_eq_true ci]
                    have e5 : cnt (fun i => u.testBit i) l.length = on16 u := by
                      unfold on16
                      rw [← cnt_cut (fun i => u.testBit i) 16 c16]
                      refine cnt_congr 16 (fun i hi => ?_)
                      by_cases c : i < l.length
                      · simp [c]
                      · have : u.testBit i = false := Nat.testBit_lt_two_pow (Nat.lt_of_lt_of_le (show u < 2 ^ l.length by omega) (Nat.pow_le_pow_right (by omega) (by omega)))
                        simp [this]
                    exact cnt_full (p := fun i => u.testBit i) l.length (by omega) i ci
                  · rw [decide_eq_false ci]
                    exact Nat.testBit_lt_two_pow (Nat.lt_of_lt_of_le (show u < 2 ^ l.length by omega) (Nat.pow_le_pow_right (by omega) (by omega)))
                rw [e4]; exact Or.inr ⟨rfl, Nat.le_refl _⟩
            · exact absurd hue q
          · exact hm u (by omega) hue
        refine gX12_chosen_34 ?_
        unfold fX12_chosen_34
        rw [hB.1.1, one_sl _ c16]
        simp (disch := omega) only [iI_le]
        refine ⟨fun c => absurd c (by omega), fun _ => M_ones rfl (by omega) ?_⟩
        dsimp only [hx1, rI]
        refine M_ones rfl (by omega) ?_
        dsimp only [hx1, rI]
        rw [iI_le (by omega) (by omega) (by omega) (by omega)]
        have eb : enT l f (bz (iI (k : Nat))) ↔ enT l f (fun i => k.testBit i) := enT_congr (fun s hs => bz_nat k (by omega) s)
        refine ⟨fun c => stay (Or.inl (by omega)), fun c => M_isEnough hB hF (fun q => ?_) (fun q => ?_)⟩
        · dsimp only [hx1, rI]
          refine ⟨fun c => absurd c (by decide), fun _ => ?_⟩
          rw [a1, iI_add]
          refine ih (k + 1) k (by omega) (by omega) (eb.mp q) (fun u hu hue => ?_) (by omega)
          by_cases cu : u = k
          · rw [cu]; exact Or.inr ⟨rfl, Nat.le_refl _⟩
          · have := hm u (by omega) hue; omega
        · dsimp only [hx1, rI]
          exact ⟨fun _ => stay (Or.inr (fun g => q (eb.mpr g))), fun c => absurd rfl c⟩
    refine ⟨fun c => ?_, fun c => ⟨fun c1 => ⟨fun _ => ?_, fun c2 => absurd (by omega) c2⟩, fun c1 => ?_⟩⟩
    · have := h 0 (fun q => absurd (Or.inl c) q); rw [if_pos (Or.inl c)] at this; exact this
    · rw [a1, iI_le (by omega) (by omega) (by omega) (by omega)] at c1
      rw [one_sl _ c16, a1, iI_sub, show ((2 ^ l.length : Nat) : Int) - 1 = ((2 ^ l.length - 1 : Nat) : Int) by omega]
      exact key (by omega) (2 ^ l.length) 0 (2 ^ l.length - 1) (by omega) (by omega) (enT_all (fun s hs => by rw [Nat.testBit_two_pow_sub_one, decide_eq_true hs])) (fun u hu => absurd hu (Nat.not_lt_zero u)) (Or.inr rfl)
    · rw [a1, iI_le (by omega) (by omega) (by omega) (by omega)] at c1
      have := h 0 (fun q => absurd (by omega) q); rw [if_pos (by omega)] at this; exact this
  · refine ⟨fun c => ?_, fun c => ⟨fun c1 => ⟨fun c2 => absurd c2 (by omega), fun _ => ?_⟩, fun c1 => ?_⟩⟩
    · have := h 0 (fun _ q => absurd q c16); rw [if_pos (Or.inl c)] at this; exact this
    · have := h 0 (fun _ q => absurd q c16)
      rw [show (1 : Int32) = iI 1 from rfl, iI_le (by omega) (by omega) (by omega) (by omega)] at c1
      rw [if_neg (by omega), if_pos (by omega)] at this; exact this
    · have := h 0 (fun _ q => absurd q c16)
      rw [show (1 : Int32) = iI 1 from rfl, iI_le (by omega) (by omega) (by omega) (by omega)] at c1
      rw [if_pos (by omega)] at this; exact this
