/-! ===== what DOTS are ===== -/
/-- pixels side by side -/
def adj (i j : Nat) : Prop := (j = i + 1 ∧ i % 16 ≠ 15) ∨ (i = j + 1 ∧ j % 16 ≠ 15) ∨ j = i + 16 ∨ i = j + 16
theorem adj_sym {i j : Nat} (h : adj i j) : adj j i := by unfold adj at *; omega
def brt (L : Nat → Int) (z : Int) (i : Nat) : Prop := i < 256 ∧ z < L i
/-- from p one comes to q over bright pixels -/
def rch (L : Nat → Int) (z : Int) (p q : Nat) : Prop := ∀ S : Nat → Prop, S p → (∀ i j, S i → adj i j → brt L z j → S j) → S q
theorem rch_rf {L : Nat → Int} {z : Int} (p : Nat) : rch L z p p := fun _ h _ => h
theorem rch_st {L : Nat → Int} {z : Int} {p i j : Nat} (h : rch L z p i) (ha : adj i j) (hb : brt L z j) : rch L z p j := fun S h0 hs => hs i j (h S h0 hs) ha hb
theorem rch_tr {L : Nat → Int} {z : Int} {p q r : Nat} (h : rch L z p q) (h' : rch L z q r) : rch L z p r := h' (fun x => rch L z p x) h (fun _ _ hi ha hb => rch_st hi ha hb)
theorem rch_br {L : Nat → Int} {z : Int} {p q : Nat} (h : rch L z p q) (hp : brt L z p) : brt L z q := h (brt L z) hp (fun _ _ _ _ hb => hb)
theorem rch_sy {L : Nat → Int} {z : Int} {p q : Nat} (h : rch L z p q) (hp : brt L z p) : rch L z q p :=
  (h (fun x => brt L z x ∧ rch L z x p) ⟨hp, rch_rf p⟩ (fun i _ hi ha hb => ⟨hb, rch_tr (rch_st (rch_rf _) (adj_sym ha) hi.1) hi.2⟩)).2
noncomputable def dcd (p : Prop) : Bool := @decide p (Classical.propDecidable p)
theorem dcd_t {p : Prop} : dcd p = true ↔ p := by unfold dcd; exact @decide_eq_true_iff p (Classical.propDecidable p)
theorem dcd_f {p : Prop} : dcd p = false ↔ ¬ p := by unfold dcd; exact @decide_eq_false_iff_not p (Classical.propDecidable p)
noncomputable def cmp (L : Nat → Int) (z : Int) (p q : Nat) : Bool := dcd (brt L z p ∧ rch L z p q)
/-- the first pixel of a DOT -/
def fst1 (L : Nat → Int) (z : Int) (k : Nat) : Prop := brt L z k ∧ ∀ j, j < k → brt L z j → ¬ rch L z j k
noncomputable def fstB (L : Nat → Int) (z : Int) (k : Nat) : Bool := dcd (fst1 L z k)
theorem cnt_pair {p : Nat → Bool} (h : ∀ k, p (2 * k) = true → p (2 * k + 1) = true → False) : ∀ n, cnt p (2 * n) ≤ n
  | 0 => Nat.le_refl _
  | n + 1 => by
    have ih := cnt_pair h n
    show cnt p (2 * n) + (if p (2 * n) = true then 1 else 0) + (if p (2 * n + 1) = true then 1 else 0) ≤ n + 1
    have := h n
    cases h1 : p (2 * n) <;> cases h2 : p (2 * n + 1) <;> simp_all <;> omega
theorem cnt_le_mono (p : Nat → Bool) : ∀ {a b : Nat}, a ≤ b → cnt p a ≤ cnt p b
  | a, 0, h => by rw [show a = 0 by omega]; exact Nat.le_refl _
  | a, b + 1, h => by
    by_cases c : a = b + 1
    · rw [c]; exact Nat.le_refl _
    · have := cnt_le_mono p (show a ≤ b by omega)
      show _ ≤ cnt p b + _
      omega
theorem fst_le (L : Nat → Int) (z : Int) (n : Nat) (hn : n ≤ 256) : cnt (fstB L z) n ≤ 128 := by
  refine Nat.le_trans (cnt_le_mono _ hn) (cnt_pair (fun k h1 h2 => ?_) 128)
  have a1 := dcd_t.mp h1
  have a2 := dcd_t.mp h2
  exact a2.2 (2 * k) (by omega) a1.1 (rch_st (rch_rf _) (Or.inl ⟨rfl, by omega⟩) a2.1)
/-- the d-th number of which p holds -/
def nth (p : Nat → Bool) (d : Nat) : Nat → Nat
  | 0 => 0
  | n + 1 => if p n = true ∧ cnt p n = d then n else nth p d n
theorem nth_at {p : Nat → Bool} {k : Nat} (hk : p k = true) : ∀ n, k < n → nth p (cnt p k) n = k
  | 0, h => absurd h (Nat.not_lt_zero k)
  | n + 1, h => by
    unfold nth
    by_cases c : k = n
    · subst c; rw [if_pos ⟨hk, rfl⟩]
    · rw [if_neg]
      · exact nth_at hk n (by omega)
      · intro q
        have h1 := cnt_le_mono p (show k + 1 ≤ n by omega)
        have h2 : cnt p (k + 1) = cnt p k + 1 := by show cnt p k + (if p k = true then 1 else 0) = _; rw [if_pos hk]
        omega
theorem nth_ok {p : Nat → Bool} {d : Nat} : ∀ n, d < cnt p n → nth p d n < n ∧ p (nth p d n) = true ∧ cnt p (nth p d n) = d
  | 0, h => absurd h (Nat.not_lt_zero d)
  | n + 1, h => by
    unfold nth
    by_cases c : p n = true ∧ cnt p n = d
    · rw [if_pos c]; exact ⟨by omega, c⟩
    · rw [if_neg c]
      have hd : d < cnt p n := by
        unfold cnt at h
        by_cases c1 : p n = true
        · rw [if_pos c1] at h
          have : cnt p n ≠ d := fun q => c ⟨c1, q⟩
          omega
        · rw [if_neg c1] at h; omega
      have := nth_ok n hd
      exact ⟨by omega, this.2⟩
/-- the first pixel of the d-th DOT -/
noncomputable def pxD (L : Nat → Int) (z : Int) (d : Nat) : Nat := nth (fstB L z) d 256
def smB (S : Nat → Bool) (g : Nat → Int) : Nat → Int
  | 0 => 0
  | n + 1 => smB S g n + (if S n = true then g n else 0)
theorem smB_congr {S T : Nat → Bool} {g : Nat → Int} : ∀ n, (∀ i, i < n → S i = T i) → smB S g n = smB T g n
  | 0, _ => rfl
  | n + 1, h => by unfold smB; rw [smB_congr n (fun i hi => h i (by omega)), h n (by omega)]
theorem smB_upd {S T : Nat → Bool} {g : Nat → Int} {k : Nat} (hp : S k = false) (hq : T k = true) (h : ∀ i, i ≠ k → T i = S i) : ∀ n, k < n → smB T g n = smB S g n + g k
  | 0, hk => absurd hk (Nat.not_lt_zero k)
  | n + 1, hk => by
    unfold smB
    by_cases c : k = n
    · subst c
      rw [smB_congr k (fun i hi => h i (by omega)), hp, hq]; simp
    · rw [smB_upd hp hq h n (by omega), h n (by omega)]; omega
theorem smB_zero {S : Nat → Bool} {g : Nat → Int} (n : Nat) (h : ∀ i, i < n → S i = false) : smB S g n = 0 := by
  induction n with
  | zero => rfl
  | succ n ih => unfold smB; rw [ih (fun i hi => h i (by omega)), h n (by omega)]; simp
theorem smB_bd {S : Nat → Bool} {g : Nat → Int} {B : Int} (hB : 0 ≤ B) : ∀ n, (∀ i, i < n → 0 ≤ g i ∧ g i ≤ B) → 0 ≤ smB S g n ∧ smB S g n ≤ n * B
  | 0, _ => by unfold smB; exact ⟨by omega, by omega⟩
  | n + 1, h => by
    have ih := smB_bd (S := S) hB n (fun i hi => h i (by omega))
    have hn := h n (by omega)
    unfold smB
    have e : ((n + 1 : Nat) : Int) * B = n * B + B := by rw [Int.natCast_add, Int.add_mul]; omega
    rw [e]
    split <;> omega
def colP (q : Nat) : Int := (q % 16 : Nat)
def rowP (q : Nat) : Int := (q / 16 : Nat)
def gX (L : Nat → Int) (q : Nat) : Int := (10 * colP q + 5) * L q
def gY (L : Nat → Int) (q : Nat) : Int := (10 * rowP q + 5) * L q
def smr (S : Nat → Bool) : Prop := ∃ q r, q < 256 ∧ r < 256 ∧ S q = true ∧ S r = true ∧ (colP r + 3 ≤ colP q ∨ rowP r + 3 ≤ rowP q)
/-- x, y, light, pixels, is it a smear -/
abbrev DT : Type := Int × Int × Int × Int × Bool
noncomputable def mkD (L : Nat → Int) (S : Nat → Bool) : DT := (smB S (gX L) 256 / smB S L 256, smB S (gY L) 256 / smB S L 256, smB S L 256, (cnt S 256 : Nat), dcd (smr S))
/-- the d-th DOT, by its first pixel -/
noncomputable def dq (L : Nat → Int) (z : Int) (d : Nat) : DT := mkD L (cmp L z (pxD L z d))
noncomputable def nDt (L : Nat → Int) (z : Int) : Nat := cnt (fstB L z) 256
def keyD (t : DT) : Int := t.2.2.1 * 1000000 - t.2.1 * 1000 - t.1
/-! sorting by a key, from the highest down, of like ones the earlier one first -/
def shK (κ : Nat → Int) (s : Nat) : Nat → (Nat → Nat) → Nat → Nat
  | 0, o => upN o 0 s
  | k + 1, o => if κ (o k) < κ s then shK κ s k (upN o (k + 1) (o k)) else upN o (k + 1) s
def ordK (κ : Nat → Int) : Nat → Nat → Nat
  | 0 => fun _ => 0
  | k + 1 => shK κ k k (ordK κ k)
theorem shK_lt {κ : Nat → Int} {s B : Nat} (hs : s < B) : ∀ k o i, (∀ i, i ≠ k → o i < B) → shK κ s k o i < B
  | 0, o, i, h => by unfold shK upN; split; exact hs; exact h i (by assumption)
  | k + 1, o, i, h => by
    unfold shK
    split
    · refine shK_lt hs k _ i (fun i hi => ?_)
      unfold upN
      split
      · exact h k (by omega)
      · rename_i c; exact h i c
    · unfold upN; split; exact hs; exact h i (by assumption)
theorem ordK_lt (κ : Nat → Int) : ∀ k i, ordK κ k i < k + 1
  | 0, i => by unfold ordK; omega
  | k + 1, i => by
    unfold ordK
    exact shK_lt (by omega) k _ i (fun i _ => Nat.lt_succ_of_lt (ordK_lt κ k i))
theorem ordK_in (κ : Nat → Int) : ∀ k i, i < k → ordK κ k i < k := fun k i hi => by
  cases k with
  | zero => omega
  | succ k => unfold ordK; exact shK_lt (by omega) k _ i (fun i _ => Nat.lt_of_lt_of_le (ordK_lt κ k i) (by omega))
/-- where the new one comes to stand -/
theorem shK_at {κ : Nat → Int} {s : Nat} : ∀ k o, (∀ i j, i < j → j < k → κ (o j) ≤ κ (o i)) → ∃ p, p ≤ k ∧ (∀ i, i < p → κ s ≤ κ (o i)) ∧ (∀ i, p ≤ i → i < k → κ (o i) < κ s) ∧ ∀ i, i ≤ k → shK κ s k o i = if i < p then o i else if i = p then s else o (i - 1)
  | 0, o, _ => ⟨0, by omega, fun i hi => by omega, fun i _ hi => by omega, fun i hi => by
      rw [show i = 0 by omega]; unfold shK upN; rw [if_pos rfl, if_neg (by omega)]⟩
  | k + 1, o, hs => by
    by_cases c : κ (o k) < κ s
    · obtain ⟨p, h1, h2, h3, h4⟩ := shK_at k (upN o (k + 1) (o k)) (fun i j hij hj => by unfold upN; rw [if_neg (by omega), if_neg (by omega)]; exact hs i j hij (by omega))
      refine ⟨p, by omega, fun i hi => ?_, fun i hi hk => ?_, fun i hi => ?_⟩
      · have := h2 i hi
        unfold upN at this; rw [if_neg (by omega)] at this; exact this
      · by_cases ck : i = k
        · rw [ck]; exact c
        · have := h3 i hi (by omega)
          unfold upN at this; rw [if_neg (by omega)] at this; exact this
      · unfold shK
        rw [if_pos c]
        by_cases ci : i ≤ k
        · rw [h4 i ci]
          by_cases c1 : i < p
          · rw [if_pos c1, if_pos c1]; unfold upN; rw [if_neg (by omega)]
          · rw [if_neg c1, if_neg c1]
            by_cases c2 : i = p
            · rw [if_pos c2, if_pos c2]
            · rw [if_neg c2, if_neg c2]; unfold upN; rw [if_neg (by omega)]
        · have ei : i = k + 1 := by omega
          rw [if_neg (by omega), if_neg (by omega), ei]
          have : ∀ m o, m < k + 1 → shK κ s m o (k + 1) = o (k + 1) := by
            intro m
            induction m with
            | zero => intro o _; unfold shK upN; rw [if_neg (by omega)]
            | succ m ih =>
              intro o hm
              unfold shK
              split
              · rw [ih _ (by omega)]; unfold upN; rw [if_neg (by omega)]
              · unfold upN; rw [if_neg (by omega)]
          rw [this k _ (by omega)]
          unfold upN; rw [if_pos rfl]; congr 1
    · refine ⟨k + 1, by omega, fun i hi => ?_, fun i hi hk => by omega, fun i hi => ?_⟩
      · by_cases ck : i = k
        · rw [ck]; omega
        · have := hs i k (by omega) (by omega); omega
      · unfold shK upN
        rw [if_neg c]
        by_cases ci : i = k + 1
        · rw [if_pos ci, if_neg (by omega), if_pos ci]
        · rw [if_neg ci, if_pos (by omega)]
theorem ordK_so (κ : Nat → Int) : ∀ k i j, i < j → j < k → κ (ordK κ k j) ≤ κ (ordK κ k i)
  | 0, i, j, _, h => by omega
  | k + 1, i, j, hij, hj => by
    obtain ⟨p, h1, h2, h3, h4⟩ := shK_at (κ := κ) (s := k) k (ordK κ k) (ordK_so κ k)
    have so := ordK_so κ k
    unfold ordK
    rw [h4 i (by omega), h4 j (by omega)]
    by_cases c1 : j < p
    · rw [if_pos c1, if_pos (by omega)]; exact so i j hij (by omega)
    · rw [if_neg c1]
      by_cases c2 : j = p
      · rw [if_pos c2, if_pos (by omega)]; exact h2 i (by omega)
      · rw [if_neg c2]
        by_cases c3 : i < p
        · rw [if_pos c3]
          by_cases c4 : j - 1 = i
          · rw [c4]; omega
          · exact so i (j - 1) (by omega) (by omega)
        · rw [if_neg c3]
          by_cases c4 : i = p
          · rw [if_pos c4]; have := h3 (j - 1) (by omega) (by omega); omega
          · rw [if_neg c4]; exact so (i - 1) (j - 1) (by omega) (by omega)
noncomputable def ordD (L : Nat → Int) (z : Int) : Nat → Nat → Nat := ordK (fun d => keyD (dq L z d))
/-- how many DOTS count -/
noncomputable def nD (L : Nat → Int) (z : Int) : Nat := if nDt L z ≤ 12 then nDt L z else 12
/-- the DOTS, in their order -/
noncomputable def dt (L : Nat → Int) (z : Int) (i : Nat) : DT := dq L z (ordD L z (nDt L z) i)
theorem nD_le (L : Nat → Int) (z : Int) : nD L z ≤ 12 ∧ nD L z ≤ nDt L z := by unfold nD; split <;> omega
/-! bounds of a DOT -/
def LOK (L : Nat → Int) : Prop := ∀ i, 0 ≤ L i ∧ L i ≤ 9
theorem smB_ge {S : Nat → Bool} {g : Nat → Int} {k : Nat} (hk : S k = true) : ∀ n, k < n → (∀ i, i < n → 0 ≤ g i) → g k ≤ smB S g n
  | 0, h, _ => absurd h (Nat.not_lt_zero k)
  | n + 1, h, hg => by
    unfold smB
    by_cases c : k = n
    · subst c
      have : 0 ≤ smB S g k := by
        have : ∀ m, (∀ i, i < m → 0 ≤ g i) → 0 ≤ smB S g m := by
          intro m
          induction m with
          | zero => intro _; exact Int.le_refl 0
          | succ m ih => intro h; unfold smB; have := ih (fun i hi => h i (by omega)); have := h m (by omega); split <;> omega
        exact this k (fun i hi => hg i (by omega))
      rw [if_pos hk]; omega
    · have := smB_ge hk n (by omega) (fun i hi => hg i (by omega))
      have := hg n (by omega)
      split <;> omega
theorem smB_lin {S : Nat → Bool} {g h : Nat → Int} {a b : Int} : ∀ n, (∀ i, i < n → S i = true → a * h i ≤ g i ∧ g i ≤ b * h i) → a * smB S h n ≤ smB S g n ∧ smB S g n ≤ b * smB S h n
  | 0, _ => by unfold smB; simp
  | n + 1, e => by
    have ih := smB_lin (S := S) n (fun i hi => e i (by omega))
    unfold smB
    rw [Int.mul_add, Int.mul_add]
    by_cases c : S n = true
    · have := e n (by omega) c
      rw [if_pos c, if_pos c]; omega
    · rw [if_neg c, if_neg c]; omega
theorem mkD_bd {L : Nat → Int} {S : Nat → Bool} (hL : LOK L) (hp : 0 < smB S L 256) : (5 ≤ (mkD L S).1 ∧ (mkD L S).1 ≤ 155) ∧ (5 ≤ (mkD L S).2.1 ∧ (mkD L S).2.1 ≤ 155) ∧ (0 < (mkD L S).2.2.1 ∧ (mkD L S).2.2.1 ≤ 2304) ∧ 0 ≤ (mkD L S).2.2.2.1 ∧ (mkD L S).2.2.2.1 ≤ 256 := by
  have b1 := smB_bd (S := S) (g := L) (B := 9) (by omega) 256 (fun i _ => hL i)
  have hx := smB_lin (S := S) (g := gX L) (h := L) (a := 5) (b := 155) 256 (fun i hi _ => by
    have h0 := (hL i).1
    have hc : 0 ≤ colP i ∧ colP i ≤ 15 := by unfold colP; omega
    unfold gX
    exact ⟨Int.mul_le_mul_of_nonneg_right (by omega) h0, Int.mul_le_mul_of_nonneg_right (by omega) h0⟩)
  have hy := smB_lin (S := S) (g := gY L) (h := L) (a := 5) (b := 155) 256 (fun i hi _ => by
    have h0 := (hL i).1
    have hc : 0 ≤ rowP i ∧ rowP i ≤ 15 := by unfold rowP; omega
    unfold gY
    exact ⟨Int.mul_le_mul_of_nonneg_right (by omega) h0, Int.mul_le_mul_of_nonneg_right (by omega) h0⟩)
  have hc := cnt_le S 256
  unfold mkD
  dsimp only
  refine ⟨⟨?_, ?_⟩, ⟨?_, ?_⟩, ⟨hp, by omega⟩, by omega, by omega⟩
  · exact (Int.le_ediv_iff_mul_le hp).mpr hx.1
  · exact Int.le_of_lt_add_one ((Int.ediv_lt_iff_lt_mul hp).mpr (by rw [Int.add_mul]; omega))
  · exact (Int.le_ediv_iff_mul_le hp).mpr hy.1
  · exact Int.le_of_lt_add_one ((Int.ediv_lt_iff_lt_mul hp).mpr (by rw [Int.add_mul]; omega))
theorem dq_bd {L : Nat → Int} {z : Int} (hL : LOK L) (hz : 0 ≤ z) {d : Nat} (hd : d < nDt L z) : 0 < smB (cmp L z (pxD L z d)) L 256 := by
  have h := nth_ok (p := fstB L z) 256 hd
  have hf := dcd_t.mp h.2.1
  have hb := hf.1
  have : cmp L z (pxD L z d) (pxD L z d) = true := dcd_t.mpr ⟨hb, rch_rf _⟩
  have := smB_ge (g := L) this 256 hb.1 (fun i _ => (hL i).1)
  have := hb.2
  unfold pxD at *
  omega
