/-! ===== TURN: what it is; the Model ===== -/
/-- the sum over the points that are named -/
def sZ (g : Nat → Nat) (h : Nat → Int) : Nat → Int
  | 0 => 0
  | q + 1 => if g q = 32 then sZ g h q else sZ g h q + h q
theorem sZ_s {g : Nat → Nat} {h : Nat → Int} {q : Nat} (c : g q ≠ 32) : sZ g h (q + 1) = sZ g h q + h q := by
  conv => lhs; unfold sZ
  rw [if_neg c]
theorem sZ_n {g : Nat → Nat} {h : Nat → Int} {q : Nat} (c : g q = 32) : sZ g h (q + 1) = sZ g h q := by
  conv => lhs; unfold sZ
  rw [if_pos c]
theorem sZ_lin (g : Nat → Nat) (h : Nat → Int) (c : Int) : ∀ n, c * sZ g (fun _ => 1) n - sZ g h n = sZ g (fun p => c - h p) n
  | 0 => by unfold sZ; omega
  | n + 1 => by
    have ih := sZ_lin g h c n
    by_cases e : g n = 32
    · rw [sZ_n e, sZ_n e, sZ_n e]; exact ih
    · rw [sZ_s e, sZ_s e, sZ_s e, ← ih, Int.mul_add, Int.mul_one]; omega
theorem sZ_bd {g : Nat → Nat} {h : Nat → Int} {B : Int} (hB : 0 ≤ B) : ∀ n : Nat, (∀ p, p < n → g p ≠ 32 → -B ≤ h p ∧ h p ≤ B) → -((n : Int) * B) ≤ sZ g h n ∧ sZ g h n ≤ (n : Int) * B
  | 0, _ => by unfold sZ; omega
  | n + 1, e => by
    have ih := sZ_bd hB n (fun p hp => e p (by omega))
    have m : ((n + 1 : Nat) : Int) * B = (n : Int) * B + B := by rw [Int.natCast_add, Int.add_mul]; omega
    rw [m]
    by_cases c : g n = 32
    · rw [sZ_n c]; omega
    · have := e n (by omega) c
      rw [sZ_s c]; omega
theorem sZ_nn {g : Nat → Nat} {h : Nat → Int} : ∀ n : Nat, (∀ p, p < n → 0 ≤ h p) → 0 ≤ sZ g h n
  | 0, _ => by unfold sZ; omega
  | n + 1, e => by
    have ih := sZ_nn (g := g) n (fun p hp => e p (by omega))
    have := e n (by omega)
    by_cases c : g n = 32
    · rw [sZ_n c]; exact ih
    · rw [sZ_s c]; omega
def tN (g : Nat → Nat) : Int := sZ g (fun _ => 1) 6
def tZc (g : Nat → Nat) (H : Nat → Int) (q : Nat) : Int := tN g * H q - sZ g H 6
def tA (g : Nat → Nat) (X Y : Nat → Int) : Nat → Int := sZ g (fun q => tZc g X q * tZc g X q + tZc g Y q * tZc g Y q)
def tC (g : Nat → Nat) (X Y V W : Nat → Int) : Nat → Int := sZ g (fun q => tZc g X q * tZc g V q + tZc g Y q * tZc g W q)
def tS (g : Nat → Nat) (X Y V W : Nat → Int) : Nat → Int := sZ g (fun q => tZc g X q * tZc g W q - tZc g Y q * tZc g V q)
def oV (l : List SR) (f : Nat → Int) (g : Nat → Nat) (q : Nat) : Int := 10 * ((nthS l (g q)).2.1 + f 8)
def oW (l : List SR) (f : Nat → Int) (g : Nat → Nat) (q : Nat) : Int := 10 * ((nthS l (g q)).2.2.1 + f 9)
abbrev tuL : List Nat := [52, 53, 54, 55, 56, 57, 58, 59]
def T1 (g : Nat → Nat) (X Y V W : Nat → Int) (q : Nat) (P : PS) : Prop := gL P 0 55 = iL (sZ g X q) ∧ gL P 0 56 = iL (sZ g Y q) ∧ gL P 0 57 = iL (sZ g V q) ∧ gL P 0 58 = iL (sZ g W q) ∧ gL P 0 59 = iL (sZ g (fun _ => 1) q)
def T2 (g : Nat → Nat) (X Y V W : Nat → Int) (q : Nat) (P : PS) : Prop := gL P 0 52 = iL (tA g X Y q) ∧ gL P 0 53 = iL (tC g X Y V W q) ∧ gL P 0 54 = iL (tS g X Y V W q)
theorem M_ownX {d i q w p : Nat} {y : SY} {z k : Int} {l : List SR} {f : Nat → Int} {x1 x2 : Int32} {P : PS} {R : List PS} {Q : Option AV → List PS → Prop} (e1 : x1 = iI (i : Nat)) (e2 : x2 = iI (q : Nat)) (hN : NmM y z k p w l f P) (hi : i < (nmP y z k l f p).1.length) (hq : q < 6) (hn : nmAt y z k l f p i q ≠ 32) (h : Q (some (vL (iL (oV l f (nmAt y z k l f p i) q)))) (P :: R)) : Tri 242 d [vR 0 0 0, vI x1, vI x2] (P :: R) Q := by
  subst e1 e2
  have hB := hN.1.2.2.2.1
  have hl := hB.1.2.1
  have hF := hN.1.2.2.1
  have h8 := hF.2.2.2.2.2.2.2.2.1
  have nb := nmAt_lt (q := q) hi
  have lle : (nmP y z k l f p).1.length ≤ 200 := (nmF_le (qX y z k f p) (qY y z k f p) l (f 4) (aP y z k p) (aP y z k p)).1
  refine enX12_ownX ?_
  unfold fX12_ownX_0
  have eo : (6 : Int32) * iI (i : Nat) + iI (q : Nat) = iI ((6 * i + q : Nat)) := by rw [show (6 : Int32) = iI 6 from rfl, iI_mul, iI_add]; refine congrArg iI ?_; omega
  have st := hB.1.2.2.2 (nmAt y z k l f p i q) (by omega)
  have sk := (hB.1.2.2.1 _ (nthS_mem (show nmAt y z k l f p i q < l.length by omega)))
  unfold StOK at sk
  rw [eo, iI_cl (a := ((6 * i + q : Nat) : Int)) (by omega) (by omega), Int.toNat_natCast, show gA P 0 47 (6 * i + q) = _ from hN.at hi hq, iI_cl (a := ((nmAt y z k l f p i q : Nat) : Int)) (by omega) (by omega), Int.toNat_natCast, show gA P 0 16 _ = _ from st.1, show ((8 : Int32)).toNatClampNeg = 8 from rfl, show gA P 0 12 8 = _ from hB.2 8 (by omega), iI_add, iI_l (by omega) (by omega), show (10 : Int64) = iL 10 from rfl, iL_mul]
  exact ⟨vpk (by omega) (by omega), vpk (by omega) (by omega), vpk (k := 8) (by omega) (by omega), h⟩
theorem M_ownY {d i q w p : Nat} {y : SY} {z k : Int} {l : List SR} {f : Nat → Int} {x1 x2 : Int32} {P : PS} {R : List PS} {Q : Option AV → List PS → Prop} (e1 : x1 = iI (i : Nat)) (e2 : x2 = iI (q : Nat)) (hN : NmM y z k p w l f P) (hi : i < (nmP y z k l f p).1.length) (hq : q < 6) (hn : nmAt y z k l f p i q ≠ 32) (h : Q (some (vL (iL (oW l f (nmAt y z k l f p i) q)))) (P :: R)) : Tri 243 d [vR 0 0 0, vI x1, vI x2] (P :: R) Q := by
  subst e1 e2
  have hB := hN.1.2.2.2.1
  have hl := hB.1.2.1
  have hF := hN.1.2.2.1
  have h9 := hF.2.2.2.2.2.2.2.2.2.1
  have nb := nmAt_lt (q := q) hi
  have lle : (nmP y z k l f p).1.length ≤ 200 := (nmF_le (qX y z k f p) (qY y z k f p) l (f 4) (aP y z k p) (aP y z k p)).1
  refine enX12_ownY ?_
  unfold fX12_ownY_0
  have eo : (6 : Int32) * iI (i : Nat) + iI (q : Nat) = iI ((6 * i + q : Nat)) := by rw [show (6 : Int32) = iI 6 from rfl, iI_mul, iI_add]; refine congrArg iI ?_; omega
  have st := hB.1.2.2.2 (nmAt y z k l f p i q) (by omega)
  have sk := (hB.1.2.2.1 _ (nthS_mem (show nmAt y z k l f p i q < l.length by omega)))
  unfold StOK at sk
  rw [eo, iI_cl (a := ((6 * i + q : Nat) : Int)) (by omega) (by omega), Int.toNat_natCast, show gA P 0 47 (6 * i + q) = _ from hN.at hi hq, iI_cl (a := ((nmAt y z k l f p i q : Nat) : Int)) (by omega) (by omega), Int.toNat_natCast, show gA P 0 17 _ = _ from st.2.1, show ((9 : Int32)).toNatClampNeg = 9 from rfl, show gA P 0 12 9 = _ from hB.2 9 (by omega), iI_add, iI_l (by omega) (by omega), show (10 : Int64) = iL 10 from rfl, iL_mul]
  exact ⟨vpk (by omega) (by omega), vpk (by omega) (by omega), vpk (k := 9) (by omega) (by omega), h⟩
theorem M_seekTurn {d i w p : Nat} {y : SY} {z k : Int} {l : List SR} {f : Nat → Int} {x : Int32} {P : PS} {R : List PS} {Q : Option AV → List PS → Prop} (e1 : x = iI (i : Nat)) (hN : NmM y z k p w l f P) (hi : i < (nmP y z k l f p).1.length) (h : ∀ P', T1 (nmAt y z k l f p i) (qX y z k f p) (qY y z k f p) (oV l f (nmAt y z k l f p i)) (oW l f (nmAt y z k l f p i)) 6 P' → T2 (nmAt y z k l f p i) (qX y z k f p) (qY y z k f p) (oV l f (nmAt y z k l f p i)) (oW l f (nmAt y z k l f p i)) 6 P' → Fr [] tuL [] [] P P' → Q none (P' :: R)) : Tri 244 (d + 1) [vR 0 0 0, vI x] (P :: R) Q := by
  subst e1
  have hA : aP y z k p ≤ 6 ∧ aP y z k p ≤ nP y z k p := m6_le (nP y z k p)
  have hqA : ∀ q, nmAt y z k l f p i q ≠ 32 → q < nP y z k p := fun q c => by
    have : q < aP y z k p := Classical.byContradiction (fun g => c (by unfold nmAt; rw [if_neg g]))
    omega
  refine enX12_seekTurn ?_
  unfold fX12_seekTurn_0
  generalize hg : nmAt y z k l f p i = g at *
  have l2 : ∀ (m q : Nat) (A : PS), q + m = 6 → Fr [] tuL [] [] P A → T1 g (qX y z k f p) (qY y z k f p) (oV l f g) (oW l f g) 6 A → T2 g (qX y z k f p) (qY y z k f p) (oV l f g) (oW l f g) q A → cX12_seekTurn_138 (0, 0, 0, 0) d (iI (i : Nat)) (iI (q : Nat)) A R Q := by
    intro m
    induction m with
    | zero =>
      intro q A hq fA t1 t2
      have : q = 6 := by omega
      subst this
      refine gX12_seekTurn_138 ?_
      unfold fX12_seekTurn_138
      exact ⟨fun _ => h A t1 t2 fA, fun c => absurd (by decide) c⟩
    | succ m ih =>
      intro q A hq fA t1 t2
      refine gX12_seekTurn_138 ?_
      unfold fX12_seekTurn_138
      rw [show (6 : Int32) = iI 6 from rfl, iI_le (by omega) (by omega) (by omega) (by omega), show iI (q : Nat) + 1 = iI ((q + 1 : Nat)) from iI_add (q : Nat) 1]
      refine ⟨fun c => absurd c (by omega), fun _ => M_isNamed rfl rfl (hN.same fA) hi (by omega) ?_⟩
      dsimp only [hx1, rI]
      rw [oI_dec, hg]
      refine ⟨fun c => ?_, fun c => ?_⟩
      · have c' := Decidable.not_not.mp c
        have N' := hN.same fA
        have qn := hqA q c'
        have bq := qX_bd N'.1.2.1 N'.1.2.2.1 qn
        refine M_pointX (f := f) rfl N'.1.1 qn (N'.1.2.2.2.1.2 1 (by omega)) ?_
        dsimp only [hx1, rI]
        refine M_pointY (f := f) rfl N'.1.1 qn (N'.1.2.2.2.1.2 1 (by omega)) ?_
        dsimp only [hx1, rI]
        refine M_ownX rfl rfl N' hi (by omega) (by rw [hg]; exact c') ?_
        dsimp only [hx1, rL]
        refine M_ownY rfl rfl N' hi (by omega) (by rw [hg]; exact c') ?_
        dsimp only [hx1, rL]
        rw [hg, iI_l (by omega) (by omega), iI_l (by omega) (by omega), show gL A 0 59 = _ from t1.2.2.2.2, show gL A 0 55 = _ from t1.1, show gL A 0 56 = _ from t1.2.1, show gL A 0 57 = _ from t1.2.2.1, show gL A 0 58 = _ from t1.2.2.2.1, show gL A 0 52 = _ from t2.1, show gL A 0 53 = _ from t2.2.1, show gL A 0 54 = _ from t2.2.2]
        simp only [iL_mul, iL_sub, iL_add]
        refine enX12_cross ?_
        unfold fX12_cross_0
        dsimp only [hx1, rL]
        simp only [iL_mul, iL_sub, iL_add]
        refine ih (q + 1) _ (by omega) (((fA.sL (by simp)).sL (by simp)).sL (by simp)) t1 ⟨?_, ?_, ?_⟩
        · unfold tA; rw [sZ_s c']; rfl
        · unfold tC; rw [sZ_s c']; rfl
        · unfold tS; rw [sZ_s c']; rfl
      · have c' := Decidable.not_not.mp (fun g => c g)
        exact ih (q + 1) A (by omega) fA t1 ⟨by unfold tA; rw [sZ_n c']; exact t2.1, by unfold tC; rw [sZ_n c']; exact t2.2.1, by unfold tS; rw [sZ_n c']; exact t2.2.2⟩
  have l1 : ∀ (m q : Nat) (A : PS), q + m = 6 → Fr [] tuL [] [] P A → T1 g (qX y z k f p) (qY y z k f p) (oV l f g) (oW l f g) q A → T2 g (qX y z k f p) (qY y z k f p) (oV l f g) (oW l f g) 0 A → cX12_seekTurn_42 (0, 0, 0, 0) d (iI (i : Nat)) (iI (q : Nat)) A R Q := by
    intro m
    induction m with
    | zero =>
      intro q A hq fA t1 t2
      have : q = 6 := by omega
      subst this
      refine gX12_seekTurn_42 ?_
      unfold fX12_seekTurn_42
      exact ⟨fun _ => l2 6 0 A (by omega) fA t1 t2, fun c => absurd (by decide) c⟩
    | succ m ih =>
      intro q A hq fA t1 t2
      refine gX12_seekTurn_42 ?_
      unfold fX12_seekTurn_42
      rw [show (6 : Int32) = iI 6 from rfl, iI_le (by omega) (by omega) (by omega) (by omega), show iI (q : Nat) + 1 = iI ((q + 1 : Nat)) from iI_add (q : Nat) 1]
      refine ⟨fun c => absurd c (by omega), fun _ => M_isNamed rfl rfl (hN.same fA) hi (by omega) ?_⟩
      dsimp only [hx1, rI]
      rw [oI_dec, hg]
      refine ⟨fun c => ?_, fun c => ?_⟩
      · have c' := Decidable.not_not.mp c
        have N' := hN.same fA
        have qn := hqA q c'
        have bq := qX_bd N'.1.2.1 N'.1.2.2.1 qn
        refine M_pointX (f := f) rfl N'.1.1 qn (N'.1.2.2.2.1.2 1 (by omega)) ?_
        dsimp only [hx1, rI]
        rw [iI_l (by omega) (by omega), show gL A 0 55 = _ from t1.1, iL_add]
        have fB := fA.sL (a := 55) (v := iL (sZ g (qX y z k f p) q + qX y z k f p q)) (by simp)
        have NB := hN.same fB
        refine M_pointY (f := f) rfl NB.1.1 qn (NB.1.2.2.2.1.2 1 (by omega)) ?_
        dsimp only [hx1, rI]
        rw [iI_l (by omega) (by omega), show gL A 0 56 = _ from t1.2.1, iL_add]
        have fC := fB.sL (a := 56) (v := iL (sZ g (qY y z k f p) q + qY y z k f p q)) (by simp)
        refine M_ownX rfl rfl (hN.same fC) hi (by omega) (by rw [hg]; exact c') ?_
        dsimp only [hx1, rL]
        rw [hg, show gL (sL A 0 55 (iL (sZ g (qX y z k f p) q + qX y z k f p q))) 0 57 = iL (sZ g (oV l f g) q) from t1.2.2.1, iL_add]
        have fD := fC.sL (a := 57) (v := iL (sZ g (oV l f g) q + oV l f g q)) (by simp)
        refine M_ownY rfl rfl (hN.same fD) hi (by omega) (by rw [hg]; exact c') ?_
        dsimp only [hx1, rL]
        rw [hg]
        refine ih (q + 1) _ (by omega) ((fD.sL (by simp)).sL (by simp)) ⟨?_, ?_, ?_, ?_, ?_⟩ t2
        · rw [sZ_s c']; rfl
        · rw [sZ_s c']; rfl
        · rw [sZ_s c']; rfl
        · show gL A 0 58 + iL (oW l f g q) = _
          rw [show gL A 0 58 = _ from t1.2.2.2.1, iL_add, sZ_s c']
        · show gL A 0 59 + (1 : Int64) = _
          rw [show gL A 0 59 = _ from t1.2.2.2.2, show (1 : Int64) = iL 1 from rfl, iL_add, sZ_s c']
      · have c' := Decidable.not_not.mp (fun g => c g)
        exact ih (q + 1) A (by omega) fA ⟨by rw [sZ_n c']; exact t1.1, by rw [sZ_n c']; exact t1.2.1, by rw [sZ_n c']; exact t1.2.2.1, by rw [sZ_n c']; exact t1.2.2.2.1, by rw [sZ_n c']; exact t1.2.2.2.2⟩ t2
  exact l1 6 0 _ (by omega) ((((((((Fr.rf.sL (by simp)).sL (by simp)).sL (by simp)).sL (by simp)).sL (by simp)).sL (by simp)).sL (by simp)).sL (by simp)) ⟨rfl, rfl, rfl, rfl, rfl⟩ ⟨rfl, rfl, rfl⟩
