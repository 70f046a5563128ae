/-! ===== the class: the pixels of a DOT are gathered ===== -/
def upS (S : Nat → Bool) (q : Nat) : Nat → Bool := fun i => if i = q then true else S i
/-- what is gathered: the lights there were, the noise, the pixels reached, how many, in which order -/
def GtC (L : Nat → Int) (z : Int) (S : Nat → Bool) (n : Nat) (o : Nat → Nat) (P : PS) : Prop := (∀ i, i < 256 → gA P 0 0 i = iI (if S i = true then 0 else L i)) ∧ gI P 0 3 = iI z ∧ gI P 0 2 = iI (n : Nat) ∧ n = cnt S 256 ∧ (∀ i, i < n → gA P 0 1 i = iI (o i : Nat) ∧ o i < 256 ∧ S (o i) = true) ∧ (∀ q, q < 256 → S q = true → ∃ i, i < n ∧ o i = q) ∧ gI P 0 4 = iI (smB S L 256) ∧ gI P 0 5 = iI (smB S (gX L) 256) ∧ gI P 0 6 = iI (smB S (gY L) 256) ∧ ∃ le ri ab be, Ext S 256 le ri ab be ∧ gI P 0 7 = iI le ∧ gI P 0 8 = iI ri ∧ gI P 0 9 = iI ab ∧ gI P 0 10 = iI be
abbrev rcI : List Nat := [2, 4, 5, 6, 7, 8, 9, 10]
abbrev rcA : List Nat := [0, 1]
theorem cnt_all (p : Nat → Bool) : ∀ n, (∀ i, i < n → p i = true) → cnt p n = n
  | 0, _ => rfl
  | n + 1, h => by unfold cnt; rw [cnt_all p n (fun i hi => h i (by omega)), h n (by omega)]; simp
theorem min_i {a b : Int} (ha : -2147483648 ≤ a ∧ a < 2147483648) (hb : -2147483648 ≤ b ∧ b < 2147483648) : (if iI a < iI b then iI a else iI b) = iI (if a < b then a else b) := by
  simp (disch := omega) only [iI_lt]
  split <;> rfl
theorem C_reach {d n : Nat} {L : Nat → Int} {z c r : Int} {S : Nat → Bool} {o : Nat → Nat} {x y : Int32} {P0 P1 P2 P3 P4 P5 P6 P7 P8 P9 : PS} {R : List PS} {Q : Option AV → List PS → Prop} (hx : x = iI c) (hy' : y = iI r) (hc : -1 ≤ c ∧ c ≤ 16) (hr : -1 ≤ r ∧ r ≤ 16) (hL : LOK L) (hz : 0 ≤ z ∧ z ≤ 9) (hG : GtC L z S n o P9)
    (hn : (¬ ((0 ≤ c ∧ c < 16) ∧ 0 ≤ r ∧ r < 16) ∨ S (16 * r + c).toNat = true ∨ ¬ z < L (16 * r + c).toNat) → Q none (P0 :: P1 :: P2 :: P3 :: P4 :: P5 :: P6 :: P7 :: P8 :: P9 :: R))
    (hy : ∀ P', (0 ≤ c ∧ c < 16) → (0 ≤ r ∧ r < 16) → S (16 * r + c).toNat = false → z < L (16 * r + c).toNat → GtC L z (upS S (16 * r + c).toNat) (n + 1) (upN o n (16 * r + c).toNat) P' → Fr rcI [] rcA [] P9 P' → Q none (P0 :: P1 :: P2 :: P3 :: P4 :: P5 :: P6 :: P7 :: P8 :: P' :: R)) : Tri 53 d [vR 9 0 0, vI x, vI y] (P0 :: P1 :: P2 :: P3 :: P4 :: P5 :: P6 :: P7 :: P8 :: P9 :: R) Q := by
  subst hx hy'
  obtain ⟨g1, g2, g3, g4, g5, g6, g7, g8, g9, le, ri, ab, be, hE, k1, k2, k3, k4⟩ := hG
  have hn256 : n ≤ 256 := by rw [g4]; exact cnt_le _ _
  refine enX4_reach ?_
  unfold fX4_reach_0
  rw [show (0 : Int32) = iI 0 from rfl, show (16 : Int32) = iI 16 from rfl, iI_lt (by omega) (by omega) (by omega) (by omega), iI_le (by omega) (by omega) (by omega) (by omega), iI_lt (by omega) (by omega) (by omega) (by omega), iI_le (by omega) (by omega) (by omega) (by omega)]
  refine ⟨fun q => hn (Or.inl (by omega)), fun q1 => ⟨fun q => hn (Or.inl (by omega)), fun q2 => ⟨fun q => hn (Or.inl (by omega)), fun q3 => ⟨fun q => hn (Or.inl (by omega)), fun q4 => ?_⟩⟩⟩⟩
  generalize hq : (16 * r + c).toNat = q at *
  have hq256 : q < 256 := by omega
  have eq : iI r * iI 16 + iI c = iI (q : Nat) := by rw [iI_mul, iI_add]; refine congrArg iI ?_; omega
  have hLq := hL q
  have vq : vp_in (iI (q : Nat)) 256 := vpk hq256 (by omega)
  have Lb : 0 ≤ (if S q = true then 0 else L q) ∧ (if S q = true then 0 else L q) ≤ 9 := by split <;> omega
  rw [eq, g2, g3, iI_cl (a := (q : Nat)) (by omega) (by omega), Int.toNat_natCast, g1 q hq256, show (256 : Int32) = iI 256 from rfl, iI_lt (by omega) (by omega) (by omega) (by omega), iI_lt (by omega) (by omega) (by omega) (by omega)]
  refine ⟨fun q5 => ⟨vq, fun q6 => ?_, fun q6 => hn (Or.inr ?_)⟩, fun q5 => hn (Or.inr (Or.inl ?_))⟩
  · have Sq : S q = false := by
      cases hs : S q with
      | false => rfl
      | true => rw [hs] at q6; simp only [if_true] at q6; omega
    have Lq : z < L q := by rw [Sq] at q6; simpa using q6
    have vn : vp_in (iI (n : Nat)) 256 := vpk (by omega) (by omega)
    refine ⟨vq, vn, ?_⟩
    rw [Sq]
    simp only [Bool.false_eq_true, if_false]
    rw [iI_cl (a := (n : Nat)) (by omega) (by omega), Int.toNat_natCast]
    have ck := colP_bd q
    have rk := rowP_bd hq256
    have ec : c = colP q := by unfold colP; omega
    have er : r = rowP q := by unfold rowP; omega
    have hS1 : ∀ i, i ≠ q → upS S q i = S i := fun i hi => by unfold upS; rw [if_neg hi]
    have hS2 : upS S q q = true := by unfold upS; rw [if_pos rfl]
    have E' := hE.up (T := upS S q) (m := 256) (k := q) hq256 (Nat.le_refl _) hq256 hS2 (fun i _ hi => by unfold upS; split; rfl; exact hi) (fun i hi ht => by
      unfold upS at ht
      by_cases ci : i = q
      · exact Or.inl ci
      · rw [if_neg ci] at ht; exact Or.inr ⟨hi, ht⟩)
    obtain ⟨-, ⟨a1, a2, -⟩, ⟨b1, b2, -⟩, ⟨c1, c2, -⟩, d1, d2, -⟩ := hE
    have gIl : ∀ {A : PS}, (∀ a, gI A 0 a = gI P9 0 a) → True := fun _ => trivial
    refine hy _ (by omega) (by omega) Sq Lq ⟨fun i hi => ?_, ?_, ?_, ?_, fun i hi => ?_, fun i hi hs => ?_, ?_, ?_, ?_, _, _, _, _, E', ?_, ?_, ?_, ?_⟩ ((((((((((Fr.rf.sA (by simp)).sA (by simp)).sI (by simp)).sI (by simp)).sI (by simp)).sI (by simp)).sI (by simp)).sI (by simp)).sI (by simp)).sI (by simp))
    · simp only [gI_sI, gI_sL, gI_sA, gI_sB, gI_sO, gI_sR, gI_sW, gL_sI, gL_sL, gL_sA, gL_sB, gL_sO, gL_sR, gL_sW, gA_sI, gA_sL, gA_sA, gA_sB, gA_sO, gA_sR, gB_sI, gB_sL, gB_sA, gB_sB, gB_sO, gB_sR, gB_sW, gO_sI, gO_sL, gO_sA, gO_sB, gO_sO, gO_sR, gO_sW, gR_sI, gR_sL, gR_sA, gR_sB, gR_sO, gR_sR, gR_sW, gN_sI, gN_sL, gN_sA, gN_sB, gN_sO, gN_sR, gN_sW, if_true, if_false, Nat.reduceEqDiff, reduceIte]
      by_cases ci : i = q
      · rw [if_pos ci, ci, hS2]; rfl
      · rw [if_neg ci, hS1 i ci]; exact g1 i hi
    · exact g2
    · show iI (n : Nat) + 1 = _
      rw [show (1 : Int32) = iI 1 from rfl, iI_add, show ((n : Nat) : Int) + 1 = ((n + 1 : Nat) : Int) by omega]
    · rw [cnt_upd (p := S) (q := upS S q) Sq hS2 hS1 256 hq256]; omega
    · simp only [gI_sI, gI_sL, gI_sA, gI_sB, gI_sO, gI_sR, gI_sW, gL_sI, gL_sL, gL_sA, gL_sB, gL_sO, gL_sR, gL_sW, gA_sI, gA_sL, gA_sA, gA_sB, gA_sO, gA_sR, gB_sI, gB_sL, gB_sA, gB_sB, gB_sO, gB_sR, gB_sW, gO_sI, gO_sL, gO_sA, gO_sB, gO_sO, gO_sR, gO_sW, gR_sI, gR_sL, gR_sA, gR_sB, gR_sO, gR_sR, gR_sW, gN_sI, gN_sL, gN_sA, gN_sB, gN_sO, gN_sR, gN_sW, if_true, if_false, Nat.reduceEqDiff, reduceIte]
      unfold upN
      by_cases ci : i = n
      · rw [if_pos ci, if_pos ci]; exact ⟨rfl, hq256, hS2⟩
      · rw [if_neg ci, if_neg ci]
        have := g5 i (by omega)
        exact ⟨this.1, this.2.1, by unfold upS; split; rfl; exact this.2.2⟩
    · by_cases ci : i = q
      · exact ⟨n, by omega, by unfold upN; rw [if_pos rfl]; exact ci.symm⟩
      · rw [hS1 i ci] at hs
        obtain ⟨e, e1, e2⟩ := g6 i hi hs
        exact ⟨e, by omega, by unfold upN; rw [if_neg (by omega)]; exact e2⟩
    · show gI P9 0 4 + iI (L q) = _
      rw [g7, iI_add, smB_upd (S := S) (T := upS S q) Sq hS2 hS1 256 hq256]
    · show gI P9 0 5 + ((10 : Int32) * iI c + 5) * iI (L q) = _
      rw [g8, show (10 : Int32) = iI 10 from rfl, show (5 : Int32) = iI 5 from rfl, iI_mul, iI_add, iI_mul, iI_add, smB_upd (S := S) (T := upS S q) Sq hS2 hS1 256 hq256, ec, show (10 * colP q + 5) * L q = gX L q from rfl]
    · show gI P9 0 6 + ((10 : Int32) * iI r + 5) * iI (L q) = _
      rw [g9, show (10 : Int32) = iI 10 from rfl, show (5 : Int32) = iI 5 from rfl, iI_mul, iI_add, iI_mul, iI_add, smB_upd (S := S) (T := upS S q) Sq hS2 hS1 256 hq256, er, show (10 * rowP q + 5) * L q = gY L q from rfl]
    · show (if iI c < gI P9 0 7 then iI c else gI P9 0 7) = _
      rw [k1, ec]; exact min_i (by omega) (by omega)
    · show (if gI P9 0 8 < iI c then iI c else gI P9 0 8) = _
      rw [k2, ec]
      simp (disch := omega) only [iI_lt]
      split <;> rfl
    · show (if iI r < gI P9 0 9 then iI r else gI P9 0 9) = _
      rw [k3, er]; exact min_i (by omega) (by omega)
    · show (if gI P9 0 10 < iI r then iI r else gI P9 0 10) = _
      rw [k4, er]
      simp (disch := omega) only [iI_lt]
      split <;> rfl
  · cases hs : S q with
    | true => exact Or.inl rfl
    | false => rw [hs] at q6; exact Or.inr (by simpa using q6)
  · have e : cnt S 256 = 256 := by omega
    exact cnt_full (p := S) 256 (by omega) q hq256
/-- a DOT has been gathered -/
theorem C_gather56 {d j a : Nat} {L : Nat → Int} {z : Int} {PA : PS} {P0 P1 P2 P3 P4 P5 P6 P7 P8 : PS} {R : List PS} {Q : Option AV → List PS → Prop} (hL : LOK L) (hz : 0 ≤ z ∧ z ≤ 9) (hb : brt L z a)
    (h : ∀ (n : Nat) (o : Nat → Nat) (P : PS) (sm : Bool), GtC L z (cmp L z a) n o P → sm = dcd (smr (cmp L z a)) → Fr rcI [] rcA [] PA P → cX4_gather_170 (0, 0, 0, 0) d j (oI sm) P0 P1 P2 P3 P4 P5 P6 P7 P8 P R Q) : ∀ (m i n : Nat) (o : Nat → Nat) (S : Nat → Bool) (P : PS), i + m = 257 → i ≤ n → GtC L z S n o P → Fr rcI [] rcA [] PA P → S a = true → (∀ q, q < 256 → S q = true → rch L z a q) → (∀ k, k < i → ∀ q, adj (o k) q → brt L z q → S q = true) → cX4_gather_56 (0, 0, 0, 0) d j (iI (i : Nat)) P0 P1 P2 P3 P4 P5 P6 P7 P8 P R Q := by
  intro m
  induction m with
  | zero =>
    intro i n o S P hi hin hG
    have : n ≤ 256 := by rw [hG.2.2.2.1]; exact cnt_le _ _
    omega
  | succ m ih =>
    intro i n o S P hi hin hG fP Sa SR cl
    have hn256 : n ≤ 256 := by rw [hG.2.2.2.1]; exact cnt_le _ _
    refine gX4_gather_56 ?_
    unfold fX4_gather_56
    by_cases c : i = n
    · subst c
      -- all reached: it is the DOT
      have eS : ∀ q, q < 256 → S q = cmp L z a q := fun q hq => by
        cases hs : S q with
        | true => exact (dcd_t.mpr ⟨hb, SR q hq hs⟩).symm
        | false =>
          refine (dcd_f.mpr (fun g => ?_)).symm
          have := g.2 (fun q => q < 256 ∧ S q = true) ⟨hb.1, Sa⟩ (fun u v hu had hbv => ⟨hbv.1, by
            obtain ⟨k, k1, k2⟩ := hG.2.2.2.2.2.1 u hu.1 hu.2
            exact cl k k1 v (by rw [k2]; exact had) hbv⟩)
          rw [hs] at this; exact absurd this.2 (by decide)
      obtain ⟨g1, g2, g3, g4, g5, g6, g7, g8, g9, le, ri, ab, be, hE, k1, k2, k3, k4⟩ := hG
      have hs := hE.smr
      have es : smr S ↔ smr (cmp L z a) := by
        unfold smr
        exact ⟨fun ⟨q, r, e1, e2, e3, e4, e5⟩ => ⟨q, r, e1, e2, by rw [← eS q e1]; exact e3, by rw [← eS r e2]; exact e4, e5⟩, fun ⟨q, r, e1, e2, e3, e4, e5⟩ => ⟨q, r, e1, e2, by rw [eS q e1]; exact e3, by rw [eS r e2]; exact e4, e5⟩⟩
      have hE' : Ext (cmp L z a) 256 le ri ab be := by
        obtain ⟨h1, ⟨a1, a2, a3⟩, ⟨b1, b2, b3⟩, ⟨c1, c2, c3⟩, d1, d2, d3⟩ := hE
        have ex : ∀ {f : Nat → Int} {v : Int}, (∃ q, q < 256 ∧ S q = true ∧ f q = v) → ∃ q, q < 256 ∧ cmp L z a q = true ∧ f q = v := fun ⟨q, e1, e2, e3⟩ => ⟨q, e1, by rw [← eS q e1]; exact e2, e3⟩
        exact ⟨fun q hq hq' => h1 q hq (by rw [eS q hq]; exact hq'), ⟨a1, a2, a3.elim Or.inl (fun e => Or.inr (ex e))⟩, ⟨b1, b2, b3.elim Or.inl (fun e => Or.inr (ex e))⟩, ⟨c1, c2, c3.elim Or.inl (fun e => Or.inr (ex e))⟩, d1, d2, d3.elim Or.inl (fun e => Or.inr (ex e))⟩
      have G' : GtC L z (cmp L z a) i o P := ⟨fun q hq => by rw [g1 q hq, eS q hq], g2, g3, by rw [g4]; exact cnt_congr 256 eS, fun k hk => ⟨(g5 k hk).1, (g5 k hk).2.1, by rw [← eS _ (g5 k hk).2.1]; exact (g5 k hk).2.2⟩, fun q hq hq' => g6 q hq (by rw [eS q hq]; exact hq'), by rw [g7, smB_congr 256 eS], by rw [g8, smB_congr 256 eS], by rw [g9, smB_congr 256 eS], le, ri, ab, be, hE', k1, k2, k3, k4⟩
      obtain ⟨-, ⟨a1, a2, -⟩, ⟨b1, b2, -⟩, ⟨c1, c2, -⟩, d1, d2, -⟩ := hE
      have fin := fun sm q => h i o P sm G' q fP
      rw [g3, k1, k2, k3, k4, iI_sub, iI_sub, iI_le (by omega) (by omega) (by omega) (by omega), show (3 : Int32) = iI 3 from rfl, iI_le (by omega) (by omega) (by omega) (by omega), iI_lt (by omega) (by omega) (by omega) (by omega)]
      refine ⟨fun _ => ⟨fun q => fin true ?_, fun q => ⟨fun q1 => fin false ?_, fun q1 => fin true ?_⟩⟩, fun q => absurd (by omega) q⟩
      · exact (dcd_t.mpr (es.mp (hs.mpr (Or.inl q)))).symm
      · exact (dcd_f.mpr (fun g => by have := hs.mp (es.mpr g); omega)).symm
      · exact (dcd_t.mpr (es.mp (hs.mpr (Or.inr (by omega))))).symm
    · have g5 := hG.2.2.2.2.1 i (by omega)
      have vi : vp_in (iI (i : Nat)) 256 := vpk (by omega) (by omega)
      have hSo : rch L z a (o i) := SR _ g5.2.1 g5.2.2
      generalize hoi : o i = u at *
      have eq : iI (u : Nat) / 16 = iI (rowP u) := by
        rw [show (16 : Int32) = iI 16 from rfl, iI_div (by omega) (by omega) (by omega) (by omega)]; rfl
      have er : iI (u : Nat) - iI (rowP u) * 16 = iI (colP u) := by
        rw [show (16 : Int32) = iI 16 from rfl, iI_mul, iI_sub]; refine congrArg iI ?_; unfold colP rowP; omega
      have ck := colP_bd u
      have rk := rowP_bd g5.2.1
      have eu : (u : Int) = 16 * rowP u + colP u := by unfold colP rowP; omega
      rw [hG.2.2.1, iI_le (by omega) (by omega) (by omega) (by omega), show (256 : Int32) = iI 256 from rfl, iI_le (by omega) (by omega) (by omega) (by omega), iI_cl (a := (i : Nat)) (by omega) (by omega), Int.toNat_natCast, g5.1, eq, er]
      refine ⟨fun q => absurd q (by omega), fun _ => ⟨fun q => absurd q (by omega), fun _ => ⟨vi, by decide, vi, by decide, ?_⟩⟩⟩
      -- one try, as a step: any such state is kept, and the pixel is reached if it can be
      have step : ∀ {n' : Nat} {o' : Nat → Nat} {S' : Nat → Bool} {A : PS} {c r : Int} {x y : Int32} {K : Option AV → List PS → Prop}, x = iI c → y = iI r → -1 ≤ c ∧ c ≤ 16 → -1 ≤ r ∧ r ≤ 16 → GtC L z S' n' o' A → Fr rcI [] rcA [] PA A → S' a = true → (∀ q, q < 256 → S' q = true → rch L z a q) → (∀ k, k ≤ i → o' k = o k) → i < n' → (∀ q, S q = true → S' q = true) → ((0 ≤ c ∧ c < 16) → (0 ≤ r ∧ r < 16) → adj u (16 * r + c).toNat) →
          (∀ (n2 : Nat) (o2 : Nat → Nat) (S2 : Nat → Bool) (B : PS), GtC L z S2 n2 o2 B → Fr rcI [] rcA [] PA B → S2 a = true → (∀ q, q < 256 → S2 q = true → rch L z a q) → (∀ k, k ≤ i → o2 k = o k) → i < n2 → (∀ q, S' q = true → S2 q = true) → ((0 ≤ c ∧ c < 16) → (0 ≤ r ∧ r < 16) → z < L (16 * r + c).toNat → S2 (16 * r + c).toNat = true) → K none (P0 :: P1 :: P2 :: P3 :: P4 :: P5 :: P6 :: P7 :: P8 :: B :: R)) → Tri 53 d [vR 9 0 0, vI x, vI y] (P0 :: P1 :: P2 :: P3 :: P4 :: P5 :: P6 :: P7 :: P8 :: A :: R) K := by
        intro n' o' S' A c r x y K hx hy' hc hr GA fA Sa' SR' ho hin' mono hadj k
        refine C_reach hx hy' hc hr hL hz GA (fun q => ?_) (fun B q1 q2 q3 q4 q5 q6 => ?_)
        · refine k n' o' S' A GA fA Sa' SR' ho hin' (fun _ e => e) (fun e1 e2 e3 => ?_)
          rcases q with q | q | q
          · exact absurd ⟨e1, e2⟩ q
          · exact q
          · exact absurd e3 q
        · have nn : n' = cnt S' 256 := GA.2.2.2.1
          refine k (n' + 1) _ _ B q5 (fA.trs q6) ?_ (fun q hq hs => ?_) (fun e he => ?_) (by omega) (fun q e => by unfold upS; split; rfl; exact e) (fun _ _ _ => by unfold upS; rw [if_pos rfl])
          · unfold upS; split; rfl; exact Sa'
          · unfold upS at hs
            by_cases cq : q = (16 * r + c).toNat
            · rw [cq]; exact rch_st hSo (hadj q1 q2) ⟨by omega, q4⟩
            · rw [if_neg cq] at hs; exact SR' q hq hs
          · unfold upN; rw [if_neg (by omega)]; exact ho e he
      refine step (c := colP u - 1) (r := rowP u) (by rw [show (1 : Int32) = iI 1 from rfl, iI_sub]) rfl (by omega) (by omega) hG fP Sa SR (fun _ _ => rfl) (by omega) (fun _ e => e) (fun e1 e2 => by unfold adj; omega) (fun n1 o1 S1 A1 G1 f1 a1 r1 h1 l1 m1 c1 => ?_)
      dsimp only [hx10, rV]
      refine step (c := colP u + 1) (r := rowP u) (by rw [show (1 : Int32) = iI 1 from rfl, iI_add]) rfl (by omega) (by omega) G1 f1 a1 r1 h1 l1 m1 (fun e1 e2 => by unfold adj; unfold colP rowP at *; omega) (fun n2 o2 S2 A2 G2 f2 a2 r2 h2 l2 m2 c2 => ?_)
      dsimp only [hx10, rV]
      refine step (c := colP u) (r := rowP u - 1) rfl (by rw [show (1 : Int32) = iI 1 from rfl, iI_sub]) (by omega) (by omega) G2 f2 a2 r2 h2 l2 (fun q e => m2 q (m1 q e)) (fun e1 e2 => by unfold adj; omega) (fun n3 o3 S3 A3 G3 f3 a3 r3 h3 l3 m3 c3 => ?_)
      dsimp only [hx10, rV]
      refine step (c := colP u) (r := rowP u + 1) rfl (by rw [show (1 : Int32) = iI 1 from rfl, iI_add]) (by omega) (by omega) G3 f3 a3 r3 h3 l3 (fun q e => m3 q (m2 q (m1 q e))) (fun e1 e2 => by unfold adj; omega) (fun n4 o4 S4 A4 G4 f4 a4 r4 h4 l4 m4 c4 => ?_)
      dsimp only [hx10, rV]
      rw [show iI (i : Nat) + 1 = iI ((i + 1 : Nat)) from iI_add (i : Nat) 1]
      refine ih (i + 1) n4 o4 S4 A4 (by omega) (by omega) G4 f4 a4 r4 (fun k hk q had hbq => ?_)
      by_cases ck' : k = i
      · subst ck'
        rw [h4 k (Nat.le_refl _), hoi] at had
        have inq := hbq.1
        unfold adj at had
        unfold colP rowP at *
        rcases had with ⟨e, e'⟩ | ⟨e, e'⟩ | e | e
        · have t : (16 * ((u / 16 : Nat) : Int) + (((u % 16 : Nat) : Int) + 1)).toNat = q := by omega
          have := c2 (by omega) (by omega) (by rw [t]; exact hbq.2)
          rw [t] at this
          exact m4 q (m3 q this)
        · have t : (16 * ((u / 16 : Nat) : Int) + (((u % 16 : Nat) : Int) - 1)).toNat = q := by omega
          have := c1 (by omega) (by omega) (by rw [t]; exact hbq.2)
          rw [t] at this
          exact m4 q (m3 q (m2 q this))
        · have t : (16 * (((u / 16 : Nat) : Int) + 1) + ((u % 16 : Nat) : Int)).toNat = q := by omega
          have := c4 (by omega) (by omega) (by rw [t]; exact hbq.2)
          rw [t] at this
          exact this
        · have t : (16 * (((u / 16 : Nat) : Int) - 1) + ((u % 16 : Nat) : Int)).toNat = q := by omega
          have := c3 (by omega) (by omega) (by rw [t]; exact hbq.2)
          rw [t] at this
          exact m4 q this
      · rw [h4 k (by omega)] at had
        exact m4 q (m3 q (m2 q (m1 q (cl k (by omega) q had hbq))))
