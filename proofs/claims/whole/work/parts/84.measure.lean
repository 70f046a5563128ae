/-! ===== the Model: a DOT is measured ===== -/
/-- how far a set of pixels goes, among those below n -/
def Ext (S : Nat → Bool) (n : Nat) (le ri ab be : Int) : Prop := (∀ q, q < n → S q = true → le ≤ colP q ∧ colP q ≤ ri ∧ ab ≤ rowP q ∧ rowP q ≤ be) ∧ (0 ≤ le ∧ le ≤ 16 ∧ (le = 16 ∨ ∃ q, q < n ∧ S q = true ∧ colP q = le)) ∧ (0 ≤ ri ∧ ri ≤ 15 ∧ (ri = 0 ∨ ∃ q, q < n ∧ S q = true ∧ colP q = ri)) ∧ (0 ≤ ab ∧ ab ≤ 16 ∧ (ab = 16 ∨ ∃ q, q < n ∧ S q = true ∧ rowP q = ab)) ∧ (0 ≤ be ∧ be ≤ 15 ∧ (be = 0 ∨ ∃ q, q < n ∧ S q = true ∧ rowP q = be))
theorem Ext.z (S : Nat → Bool) : Ext S 0 16 0 16 0 := ⟨fun q hq => absurd hq (Nat.not_lt_zero q), ⟨by omega, by omega, Or.inl rfl⟩, ⟨by omega, by omega, Or.inl rfl⟩, ⟨by omega, by omega, Or.inl rfl⟩, by omega, by omega, Or.inl rfl⟩
theorem colP_bd (q : Nat) : 0 ≤ colP q ∧ colP q ≤ 15 := by unfold colP; omega
theorem rowP_bd {q : Nat} (h : q < 256) : 0 ≤ rowP q ∧ rowP q ≤ 15 := by unfold rowP; omega
/-- one pixel more -/
theorem Ext.up {S T : Nat → Bool} {n m k : Nat} {le ri ab be : Int} (h : Ext S n le ri ab be) (hk : k < m) (hnm : n ≤ m) (hk2 : k < 256) (hT : T k = true) (hS : ∀ q, q < n → S q = true → T q = true) (hc : ∀ q, q < m → T q = true → q = k ∨ (q < n ∧ S q = true)) : Ext T m (if colP k < le then colP k else le) (if ri < colP k then colP k else ri) (if rowP k < ab then rowP k else ab) (if be < rowP k then rowP k else be) := by
  obtain ⟨h1, ⟨a1, a2, a3⟩, ⟨b1, b2, b3⟩, ⟨c1, c2, c3⟩, d1, d2, d3⟩ := h
  have ck := colP_bd k
  have rk := rowP_bd hk2
  have ex : ∀ {f : Nat → Int} {v : Int}, (∃ q, q < n ∧ S q = true ∧ f q = v) → ∃ q, q < m ∧ T q = true ∧ f q = v := fun ⟨q, e1, e2, e3⟩ => ⟨q, by omega, hS q e1 e2, e3⟩
  refine ⟨fun q hq hTq => ?_, ?_, ?_, ?_, ?_⟩
  · rcases hc q hq hTq with e | ⟨e1, e2⟩
    · subst e
      refine ⟨?_, ?_, ?_, ?_⟩ <;> split <;> omega
    · have := h1 q e1 e2
      refine ⟨?_, ?_, ?_, ?_⟩ <;> split <;> omega
  · split
    · exact ⟨by omega, by omega, Or.inr ⟨k, hk, hT, rfl⟩⟩
    · exact ⟨a1, a2, a3.elim Or.inl (fun e => Or.inr (ex e))⟩
  · split
    · exact ⟨by omega, by omega, Or.inr ⟨k, hk, hT, rfl⟩⟩
    · exact ⟨b1, b2, b3.elim Or.inl (fun e => Or.inr (ex e))⟩
  · split
    · exact ⟨by omega, by omega, Or.inr ⟨k, hk, hT, rfl⟩⟩
    · exact ⟨c1, c2, c3.elim Or.inl (fun e => Or.inr (ex e))⟩
  · split
    · exact ⟨by omega, by omega, Or.inr ⟨k, hk, hT, rfl⟩⟩
    · exact ⟨d1, d2, d3.elim Or.inl (fun e => Or.inr (ex e))⟩
theorem Ext.same {S : Nat → Bool} {n : Nat} {le ri ab be : Int} (h : Ext S n le ri ab be) (hS : S n = false) : Ext S (n + 1) le ri ab be := by
  obtain ⟨h1, ⟨a1, a2, a3⟩, ⟨b1, b2, b3⟩, ⟨c1, c2, c3⟩, d1, d2, d3⟩ := h
  have ex : ∀ {f : Nat → Int} {v : Int}, (∃ q, q < n ∧ S q = true ∧ f q = v) → ∃ q, q < n + 1 ∧ S q = true ∧ f q = v := fun ⟨q, e1, e2, e3⟩ => ⟨q, by omega, e2, e3⟩
  refine ⟨fun q hq hSq => ?_, ⟨a1, a2, a3.elim Or.inl (fun e => Or.inr (ex e))⟩, ⟨b1, b2, b3.elim Or.inl (fun e => Or.inr (ex e))⟩, ⟨c1, c2, c3.elim Or.inl (fun e => Or.inr (ex e))⟩, d1, d2, d3.elim Or.inl (fun e => Or.inr (ex e))⟩
  by_cases c : q = n
  · rw [c, hS] at hSq; exact absurd hSq (by decide)
  · exact h1 q (by omega) hSq
theorem Ext.smr {S : Nat → Bool} {le ri ab be : Int} (h : Ext S 256 le ri ab be) : smr S ↔ (3 ≤ ri - le ∨ 3 ≤ be - ab) := by
  obtain ⟨h1, ⟨a1, a2, a3⟩, ⟨b1, b2, b3⟩, ⟨c1, c2, c3⟩, d1, d2, d3⟩ := h
  constructor
  · rintro ⟨q, r, hq, hr, Sq, Sr, e⟩
    have e1 := h1 q hq Sq
    have e2 := h1 r hr Sr
    omega
  · intro e
    rcases e with e | e
    · rcases b3 with g | ⟨q, q1, q2, q3⟩
      · omega
      · rcases a3 with g | ⟨r, r1, r2, r3⟩
        · omega
        · exact ⟨q, r, q1, r1, q2, r2, Or.inl (by omega)⟩
    · rcases d3 with g | ⟨q, q1, q2, q3⟩
      · omega
      · rcases c3 with g | ⟨r, r1, r2, r3⟩
        · omega
        · exact ⟨q, r, q1, r1, q2, r2, Or.inr (by omega)⟩
theorem smB_s (S : Nat → Bool) (g : Nat → Int) (n : Nat) : smB S g (n + 1) = smB S g n + (if S n = true then g n else 0) := rfl
abbrev msA : List Nat := [30, 31, 32, 33, 37]
def DtM (i : Nat) (t : DT) (P : PS) : Prop := gA P 0 31 i = iI t.1 ∧ gA P 0 32 i = iI t.2.1 ∧ gA P 0 30 i = iI t.2.2.1 ∧ gA P 0 33 i = iI t.2.2.2.1 ∧ gA P 0 37 i = oI t.2.2.2.2
theorem M_measure {d p w e : Nat} {z : Int} {L k : Nat → Int} {S : Nat → Bool} {x y : Int32} {P : PS} {R : List PS} {Q : Option AV → List PS → Prop} (hx : x = iI (p : Nat)) (hy : y = iI (e : Nat)) (hK : LtK p w z L) (hP : PcM p w z L P) (he : e < 140) (hk : MkM k P) (hS : ∀ i, i < 256 → (S i = true ↔ k i = (e : Nat) + 1)) (hw : ∀ i, i < 256 → S i = true → i % 16 < w ∧ i / 16 < w) (hpos : 0 < smB S L 256)
    (h : ∀ P', DtM e (mkD L S) P' → (∀ i, i ≠ e → gA P' 0 31 i = gA P 0 31 i ∧ gA P' 0 32 i = gA P 0 32 i ∧ gA P' 0 30 i = gA P 0 30 i ∧ gA P' 0 33 i = gA P 0 33 i ∧ gA P' 0 37 i = gA P 0 37 i) → Fr [] [] msA [] P P' → Q none (P' :: R)) : Tri 203 d [vR 0 0 0, vI x, vI y] (P :: R) Q := by
  subst hx hy
  have hp := hK.1
  have hL := hK.2.2.2.1
  have hww := hK.2.1
  refine enX12_measure ?_
  unfold fX12_measure_0
  have bL : ∀ n, n ≤ 256 → 0 ≤ smB S L n ∧ smB S L n ≤ 2304 := fun n hn => by
    have := smB_bd (S := S) (g := L) (B := 9) (by omega) n (fun i _ => hL i)
    omega
  have bG : ∀ (g : Nat → Int), (∀ i, i < 256 → 0 ≤ g i ∧ g i ≤ 1395) → ∀ n, n ≤ 256 → 0 ≤ smB S g n ∧ smB S g n ≤ 357120 := fun g hg n hn => by
    have := smB_bd (S := S) (g := g) (B := 1395) (by omega) n (fun i hi => hg i (by omega))
    omega
  have gXb : ∀ i, i < 256 → 0 ≤ gX L i ∧ gX L i ≤ 1395 := fun i hi => by
    have h0 := hL i; have hc := colP_bd i
    unfold gX
    exact ⟨Int.mul_nonneg (by omega) h0.1, Int.le_trans (Int.mul_le_mul (show 10 * colP i + 5 ≤ 155 by omega) h0.2 h0.1 (by omega)) (by omega)⟩
  have gYb : ∀ i, i < 256 → 0 ≤ gY L i ∧ gY L i ≤ 1395 := fun i hi => by
    have h0 := hL i; have hc := rowP_bd hi
    unfold gY
    exact ⟨Int.mul_nonneg (by omega) h0.1, Int.le_trans (Int.mul_le_mul (show 10 * rowP i + 5 ≤ 155 by omega) h0.2 h0.1 (by omega)) (by omega)⟩
  have key : ∀ (m n : Nat) (le ri ab be : Int), n + m = 256 → Ext S n le ri ab be → cX12_measure_28 (0, 0, 0, 0) d (iI (p : Nat)) (iI (e : Nat)) (iI (smB S L n)) (iI (smB S (gX L) n)) (iI (smB S (gY L) n)) (iI (cnt S n : Nat)) (iI le) (iI ri) (iI ab) (iI be) (iI (n : Nat)) P R Q := by
    intro m
    induction m with
    | zero =>
      intro n le ri ab be hn hE
      have en : n = 256 := by omega
      subst en
      have l256 := bL 256 (by omega)
      have x256 := bG (gX L) gXb 256 (by omega)
      have y256 := bG (gY L) gYb 256 (by omega)
      have hs := hE.smr
      obtain ⟨-, ⟨a1, a2, -⟩, ⟨b1, b2, -⟩, ⟨c1, c2, -⟩, d1, d2, -⟩ := hE
      refine gX12_measure_28 ?_
      unfold fX12_measure_28
      have nz : ¬ iI (smB S L 256) = 0 := by rw [show (0 : Int32) = iI 0 from rfl, iI_eq (by omega) (by omega) (by omega) (by omega)]; omega
      have ve : vp_in (iI (e : Nat)) 140 := vpk he (by omega)
      have dx : iI (smB S (gX L) 256) / iI (smB S L 256) = iI (mkD L S).1 := iI_div x256.1 (by omega) hpos (by omega)
      have dy : iI (smB S (gY L) 256) / iI (smB S L 256) = iI (mkD L S).2.1 := iI_div y256.1 (by omega) hpos (by omega)
      rw [dx, dy, iI_cl (a := (e : Nat)) (by omega) (by omega), Int.toNat_natCast]
      have out : ∀ b : Bool, b = (mkD L S).2.2.2.2 → Q none ((sA (sA (sA (sA (sA P 0 30 e (iI (smB S L 256))) 0 31 e (iI (mkD L S).1)) 0 32 e (iI (mkD L S).2.1)) 0 33 e (iI (cnt S 256 : Nat))) 0 37 e (oI b)) :: R) := fun b hb => by
        refine h _ ⟨?_, ?_, ?_, ?_, ?_⟩ (fun i hi => ?_) (((((Fr.rf.sA (by simp)).sA (by simp)).sA (by simp)).sA (by simp)).sA (by simp))
        · simp only [gI_sI, gI_sL, gI_sA, gI_sB, gI_sO, gI_sR, gI_sW, gL_sI, gL_sL, gL_sA, gL_sB, gL_sO, gL_sR, gL_sW, gA_sI, gA_sL, gA_sA, gA_sB, gA_sO, gA_sR, gB_sI, gB_sL, gB_sA, gB_sB, gB_sO, gB_sR, gB_sW, gO_sI, gO_sL, gO_sA, gO_sB, gO_sO, gO_sR, gO_sW, gR_sI, gR_sL, gR_sA, gR_sB, gR_sO, gR_sR, gR_sW, gN_sI, gN_sL, gN_sA, gN_sB, gN_sO, gN_sR, gN_sW, if_true, if_false, Nat.reduceEqDiff, reduceIte]
        · simp only [gI_sI, gI_sL, gI_sA, gI_sB, gI_sO, gI_sR, gI_sW, gL_sI, gL_sL, gL_sA, gL_sB, gL_sO, gL_sR, gL_sW, gA_sI, gA_sL, gA_sA, gA_sB, gA_sO, gA_sR, gB_sI, gB_sL, gB_sA, gB_sB, gB_sO, gB_sR, gB_sW, gO_sI, gO_sL, gO_sA, gO_sB, gO_sO, gO_sR, gO_sW, gR_sI, gR_sL, gR_sA, gR_sB, gR_sO, gR_sR, gR_sW, gN_sI, gN_sL, gN_sA, gN_sB, gN_sO, gN_sR, gN_sW, if_true, if_false, Nat.reduceEqDiff, reduceIte]
        · simp only [gI_sI, gI_sL, gI_sA, gI_sB, gI_sO, gI_sR, gI_sW, gL_sI, gL_sL, gL_sA, gL_sB, gL_sO, gL_sR, gL_sW, gA_sI, gA_sL, gA_sA, gA_sB, gA_sO, gA_sR, gB_sI, gB_sL, gB_sA, gB_sB, gB_sO, gB_sR, gB_sW, gO_sI, gO_sL, gO_sA, gO_sB, gO_sO, gO_sR, gO_sW, gR_sI, gR_sL, gR_sA, gR_sB, gR_sO, gR_sR, gR_sW, gN_sI, gN_sL, gN_sA, gN_sB, gN_sO, gN_sR, gN_sW, if_true, if_false, Nat.reduceEqDiff, reduceIte]; rfl
        · simp only [gI_sI, gI_sL, gI_sA, gI_sB, gI_sO, gI_sR, gI_sW, gL_sI, gL_sL, gL_sA, gL_sB, gL_sO, gL_sR, gL_sW, gA_sI, gA_sL, gA_sA, gA_sB, gA_sO, gA_sR, gB_sI, gB_sL, gB_sA, gB_sB, gB_sO, gB_sR, gB_sW, gO_sI, gO_sL, gO_sA, gO_sB, gO_sO, gO_sR, gO_sW, gR_sI, gR_sL, gR_sA, gR_sB, gR_sO, gR_sR, gR_sW, gN_sI, gN_sL, gN_sA, gN_sB, gN_sO, gN_sR, gN_sW, if_true, if_false, Nat.reduceEqDiff, reduceIte]; rfl
        · simp only [gI_sI, gI_sL, gI_sA, gI_sB, gI_sO, gI_sR, gI_sW, gL_sI, gL_sL, gL_sA, gL_sB, gL_sO, gL_sR, gL_sW, gA_sI, gA_sL, gA_sA, gA_sB, gA_sO, gA_sR, gB_sI, gB_sL, gB_sA, gB_sB, gB_sO, gB_sR, gB_sW, gO_sI, gO_sL, gO_sA, gO_sB, gO_sO, gO_sR, gO_sW, gR_sI, gR_sL, gR_sA, gR_sB, gR_sO, gR_sR, gR_sW, gN_sI, gN_sL, gN_sA, gN_sB, gN_sO, gN_sR, gN_sW, if_true, if_false, Nat.reduceEqDiff, reduceIte]; rw [hb]
        · simp only [gI_sI, gI_sL, gI_sA, gI_sB, gI_sO, gI_sR, gI_sW, gL_sI, gL_sL, gL_sA, gL_sB, gL_sO, gL_sR, gL_sW, gA_sI, gA_sL, gA_sA, gA_sB, gA_sO, gA_sR, gB_sI, gB_sL, gB_sA, gB_sB, gB_sO, gB_sR, gB_sW, gO_sI, gO_sL, gO_sA, gO_sB, gO_sO, gO_sR, gO_sW, gR_sI, gR_sL, gR_sA, gR_sB, gR_sO, gR_sR, gR_sW, gN_sI, gN_sL, gN_sA, gN_sB, gN_sO, gN_sR, gN_sW, if_true, if_false, Nat.reduceEqDiff, reduceIte, if_neg hi]; exact ⟨trivial, trivial, trivial, trivial, trivial⟩
      have e0 : (256 : Int32) = iI ((256 : Nat) : Int) := rfl
      rw [e0, iI_le (by omega) (by omega) (by omega) (by omega), iI_sub, iI_sub, show (2 : Int32) = iI 2 from rfl, iI_lt (by omega) (by omega) (by omega) (by omega), iI_le (by omega) (by omega) (by omega) (by omega)]
      refine ⟨fun _ => ⟨ve, nz, ve, nz, ve, ve, fun q => ⟨ve, Or.inr rfl, out true ?_⟩, fun q => ⟨fun q1 => ⟨ve, Or.inl rfl, out false ?_⟩, fun q1 => ⟨ve, Or.inr rfl, out true ?_⟩⟩⟩, fun c => absurd (by omega) c⟩
      · exact (dcd_t.mpr (hs.mpr (Or.inl (by omega)))).symm
      · exact (dcd_f.mpr (fun g => by have := hs.mp g; omega)).symm
      · exact (dcd_t.mpr (hs.mpr (Or.inr (by omega)))).symm
    | succ m ih =>
      intro n le ri ab be hn hE
      have hb := hE.2
      obtain ⟨⟨a1, a2, -⟩, ⟨b1, b2, -⟩, ⟨c1, c2, -⟩, d1, d2, -⟩ := hb
      have kn := hk n (by omega)
      refine gX12_measure_28 ?_
      unfold fX12_measure_28
      have en : iI (n : Nat) + 1 = iI ((n + 1 : Nat)) := iI_add (n : Nat) 1
      have ee : iI (e : Nat) + 1 = iI ((e : Nat) + 1) := iI_add (e : Nat) 1
      have e256 : (256 : Int32) * iI (p : Nat) + iI (n : Nat) = iI ((256 * p + n : Nat)) := by rw [show (256 : Int32) = iI 256 from rfl, iI_mul, iI_add]; congr 1
      have eq : iI (n : Nat) / 16 = iI (rowP n) := by
        rw [show (16 : Int32) = iI 16 from rfl, iI_div (by omega) (by omega) (by omega) (by omega)]; congr 1
      have er : iI (n : Nat) - iI (rowP n) * 16 = iI (colP n) := by
        rw [show (16 : Int32) = iI 16 from rfl, iI_mul, iI_sub]; congr 1; unfold colP rowP; omega
      rw [eq, er, e256, ee, en, iI_cl (a := (n : Nat)) (by omega) (by omega), Int.toNat_natCast, kn.1, iI_cl (a := ((256 * p + n : Nat) : Int)) (by omega) (by omega), Int.toNat_natCast, show (256 : Int32) = iI 256 from rfl, iI_le (by omega) (by omega) (by omega) (by omega), iI_eq (by omega) (by omega) (by omega) (by omega)]
      have v1 : vp_in (iI (n : Nat)) 256 := vpk (by omega) (by omega)
      have v2 : vp_in (iI ((256 * p + n : Nat))) 3072 := vpk (by omega) (by omega)
      refine ⟨fun q => absurd q (by omega), fun _ => ⟨v1, fun q => ⟨v2, by decide, by decide, ?_⟩, fun q => ?_⟩⟩
      · have Sn : S n = true := (hS n (by omega)).mpr q
        have inw := hw n (by omega) Sn
        have lv : gA P 0 23 (256 * p + n) = iI (L n) := by
          have := hP.2.2 (n / 16) (n % 16) inw.2 inw.1
          rw [show 16 * (n / 16) + n % 16 = n by omega] at this; exact this
        rw [lv]
        have ck := colP_bd n
        have rk := rowP_bd (show n < 256 by omega)
        have E' := hE.up (T := S) (m := n + 1) (k := n) (by omega) (by omega) (by omega) Sn (fun q _ hq => hq) (fun q hq hSq => by by_cases c : q = n; exact Or.inl c; exact Or.inr ⟨by omega, hSq⟩)
        have s1 : smB S L (n + 1) = smB S L n + L n := by rw [smB_s, if_pos Sn]
        have s2 : smB S (gX L) (n + 1) = smB S (gX L) n + gX L n := by rw [smB_s, if_pos Sn]
        have s3 : smB S (gY L) (n + 1) = smB S (gY L) n + gY L n := by rw [smB_s, if_pos Sn]
        have s4 : cnt S (n + 1) = cnt S n + 1 := by show cnt S n + (if S n = true then 1 else 0) = _; rw [if_pos Sn]
        have go := ih (n + 1) _ _ _ _ (by omega) E'
        rw [s1, s2, s3, s4] at go
        have x1 : iI (smB S L n) + iI (L n) = iI (smB S L n + L n) := iI_add _ _
        have x2 : iI (smB S (gX L) n) + (((10 : Int32) * iI (colP n)) + 5) * iI (L n) = iI (smB S (gX L) n + gX L n) := by
          rw [show (10 : Int32) = iI 10 from rfl, show (5 : Int32) = iI 5 from rfl, iI_mul, iI_add, iI_mul, iI_add]; rfl
        have x3 : iI (smB S (gY L) n) + (((10 : Int32) * iI (rowP n)) + 5) * iI (L n) = iI (smB S (gY L) n + gY L n) := by
          rw [show (10 : Int32) = iI 10 from rfl, show (5 : Int32) = iI 5 from rfl, iI_mul, iI_add, iI_mul, iI_add]; rfl
        have x4 : iI (cnt S n : Nat) + 1 = iI ((cnt S n + 1 : Nat)) := iI_add (cnt S n : Nat) 1
        rw [x1, x2, x3, x4]
        have tail : ∀ le' ri' : Int, le' = (if colP n < le then colP n else le) → ri' = (if ri < colP n then colP n else ri) → cX12_measure_149 (0, 0, 0, 0) d (iI (p : Nat)) (iI (e : Nat)) (iI (smB S L n + L n)) (iI (smB S (gX L) n + gX L n)) (iI (smB S (gY L) n + gY L n)) (iI ((cnt S n + 1 : Nat))) (iI le') (iI ab) (iI be) (iI (n : Nat)) (iI (rowP n)) (iI ri') P R Q := by
          intro le' ri' hle hri
          refine gX12_measure_149 ?_
          unfold fX12_measure_149
          rw [en, iI_le (by omega) (by omega) (by omega) (by omega), iI_le (by omega) (by omega) (by omega) (by omega)]
          rw [← hle, ← hri] at go
          refine ⟨fun g => ⟨fun g1 => ?_, fun g1 => ?_⟩, fun g => ⟨fun g1 => ?_, fun g1 => ?_⟩⟩
          · rw [if_neg (by omega), if_neg (by omega)] at go; exact go
          · rw [if_neg (by omega), if_pos (by omega)] at go; exact go
          · rw [if_pos (by omega), if_neg (by omega)] at go; exact go
          · rw [if_pos (by omega), if_pos (by omega)] at go; exact go
        rw [iI_le (by omega) (by omega) (by omega) (by omega), iI_le (by omega) (by omega) (by omega) (by omega)]
        refine ⟨fun g => ⟨fun g1 => tail _ _ ?_ ?_, fun g1 => tail _ _ ?_ ?_⟩, fun g => ⟨fun g1 => tail _ _ ?_ ?_, fun g1 => tail _ _ ?_ ?_⟩⟩
        all_goals first | rw [if_neg (by omega)] | rw [if_pos (by omega)]
      · have Sn : S n = false := by
          cases hs : S n with
          | false => rfl
          | true => exact absurd ((hS n (by omega)).mp hs) q
        have go := ih (n + 1) le ri ab be (by omega) (hE.same Sn)
        have s1 : ∀ g : Nat → Int, smB S g (n + 1) = smB S g n := fun g => by rw [smB_s, Sn]; simp
        have s4 : cnt S (n + 1) = cnt S n := by show cnt S n + (if S n = true then 1 else 0) = _; rw [Sn]; simp
        rw [s1, s1, s1, s4] at go
        exact go
  exact key 256 0 16 0 16 0 (by omega) (Ext.z S)
