theorem cnt_s (p : Nat → Bool) (n : Nat) : cnt p (n + 1) = cnt p n + (if p n = true then 1 else 0) := rfl
theorem odL_pow {N : Nat} {g : Nat → Nat} : ∀ q, odL N g q = N ^ (cnt (fun p => decide (g p ≠ 32)) q - 1) ∧ (bfN g q < 0 ↔ cnt (fun p => decide (g p ≠ 32)) q = 0)
  | 0 => ⟨rfl, by unfold bfN cnt; omega⟩
  | q + 1 => by
    have h := odL_pow (N := N) (g := g) q
    rw [cnt_s, odL_s, bfN_s]
    by_cases c : g q = 32
    · rw [if_pos (Or.inl c), if_pos c, decide_eq_false (by omega)]
      exact h
    · rw [if_neg c, decide_eq_true c, if_pos rfl]
      refine ⟨?_, by omega⟩
      by_cases c1 : bfN g q < 0
      · rw [if_pos (Or.inr c1), h.1, h.2.mp c1]
      · have : cnt (fun p => decide (g p ≠ 32)) q ≠ 0 := fun e => c1 (h.2.mpr e)
        rw [if_neg (by rintro (g1 | g1); exact c g1; exact c1 g1), h.1, ← Nat.pow_succ]
        congr 1; omega
/-- as many are named as the NAMINGS say -/
theorem nmd_cnt {X Y : Nat → Int} {l : List SR} {o : Int} {A i : Nat} (hl : l.length ≤ 32) (hA : A ≤ 6) (hi : i < (nmS X Y l o A).1.length) : cnt (fun p => decide ((if p < A then ((nmS X Y l o A).1.getD i (fun _ => 32)) p else 32) ≠ 32)) 6 = (nmS X Y l o A).2 ∧ 3 ≤ (nmS X Y l o A).2 ∧ (nmS X Y l o A).2 ≤ 6 ∧ (nmS X Y l o A).2 ≤ l.length := by
  have hm : (nmS X Y l o A).1.getD i (fun _ => 32) ∈ (nmS X Y l o A).1 := by
    rw [List.getD_eq_getElem?_getD, List.getElem?_eq_getElem hi]
    exact List.getElem_mem hi
  have ok := nmF_ok A _ (Nat.le_refl _) hm
  have le := (nmF_le X Y l o A A).2.1
  have e3 : ∀ (r : Nat → Nat) n, cnt (fun p => decide (r p ≠ 32)) n + unC r n = n := by
    intro r n
    induction n with
    | zero => rfl
    | succ n ih =>
      rw [cnt_s, unC_s]
      by_cases c : r n = 32
      · rw [decide_eq_false (by omega), if_pos c, if_neg (by decide)]; omega
      · rw [decide_eq_true c, if_neg c, if_pos rfl]; omega
  generalize (nmS X Y l o A).1.getD i (fun _ => 32) = r at *
  change (nmF X Y l o A A).2 ≤ A at le
  change NmOK X Y l o A r ∧ unC r A = A - (nmS X Y l o A).2 ∧ 3 ≤ (nmS X Y l o A).2 at ok
  change (nmS X Y l o A).2 ≤ A at le
  have e := e3 r A
  have h1 : cnt (fun p => decide ((if p < A then r p else 32) ≠ 32)) 6 = cnt (fun p => decide (r p ≠ 32)) A := by
    rw [show 6 = A + (6 - A) by omega, cnt_add, cnt_zero (6 - A) (fun i _ => decide_eq_false (by rw [if_neg (by omega)]; omega)), Nat.add_zero]
    exact cnt_congr A (fun i hi => by rw [if_pos hi])
  have h2 := unC_hole l.length A r hl (fun q hq => (ok.1 q hq).1) (fun p q hpq hq => by
    rcases (ok.1 q hq).2 with g | g
    · exact Or.inr (Or.inl g)
    · rcases g p hpq with g1 | g1
      · exact Or.inl g1
      · exact Or.inr (Or.inr g1.1))
  omega
noncomputable def oddU (y : SY) (z k : Int) (l : List SR) (f : Nat → Int) (p i : Nat) : Nat := odU (fitN (qX y z k f p) (qY y z k f p) l (f 4)) (nmAt y z k l f p i) 6
noncomputable def oddL (y : SY) (z k : Int) (l : List SR) (f : Nat → Int) (p i : Nat) : Nat := odL (l.length * (l.length - 1) / 2) (nmAt y z k l f p i) 6
theorem prN (n : Nat) (hn : n ≤ 32) : n * (n - 1) / 2 ≤ 496 ∧ n * (n - 1) ≤ 992 ∧ (3 ≤ n → 3 ≤ n * (n - 1) / 2) := by
  have : ∀ n, n ≤ 32 → n * (n - 1) / 2 ≤ 496 ∧ n * (n - 1) ≤ 992 ∧ (3 ≤ n → 3 ≤ n * (n - 1) / 2) := by decide +kernel
  exact this n hn
theorem pairI (n : Nat) (hn : n ≤ 32) : iI (n : Nat) * (iI (n : Nat) - 1) / 2 = iI ((n * (n - 1) / 2 : Nat)) := by
  have b := prN n hn
  rcases Nat.eq_zero_or_pos n with c | c
  · subst c; decide
  · have e1 : iI (n : Nat) - 1 = iI ((n - 1 : Nat)) := by rw [show (1 : Int32) = iI 1 from rfl, iI_sub]; refine congrArg iI ?_; omega
    rw [e1, iI_mul, ← Int.natCast_mul, show (2 : Int32) = iI 2 from rfl, iI_div (by omega) (by omega) (by omega) (by omega)]
    refine congrArg iI ?_
    omega
theorem pairL (n : Nat) (hn : n ≤ 32) : iL (n : Nat) * (iL (n : Nat) - 1) / 2 = iL ((n * (n - 1) / 2 : Nat)) := by
  have b := prN n hn
  rcases Nat.eq_zero_or_pos n with c | c
  · subst c; decide
  · have e1 : iL (n : Nat) - 1 = iL ((n - 1 : Nat)) := by rw [show (1 : Int64) = iL 1 from rfl, iL_sub]; refine congrArg iL ?_; omega
    rw [e1, iL_mul, ← Int.natCast_mul, show (2 : Int64) = iL 2 from rfl, iL_div (by omega) (by omega) (by omega) (by omega)]
    refine congrArg iL ?_
    omega
theorem M_seekOdds {d i w p : Nat} {y : SY} {z k : Int} {l : List SR} {f : Nat → Int} {x : Int32} {P : PS} {R : List PS} {Q : Option AV → List PS → Prop} (e1 : x = iI (i : Nat)) (hN : NmM y z k p w l f P) (hi : i < (nmP y z k l f p).1.length) (h : ∀ P', gL P' 0 50 = iL ((oddU y z k l f p i / Nat.gcd (oddU y z k l f p i) (oddL y z k l f p i) : Nat)) → gL P' 0 51 = iL ((oddL y z k l f p i / Nat.gcd (oddU y z k l f p i) (oddL y z k l f p i) : Nat)) → Fr [] [50, 51] [] [] P P' → Q none (P' :: R)) : Tri 238 (d + 3) [vR 0 0 0, vI x] (P :: R) Q := by
  subst e1
  have hB := hN.1.2.2.2.1
  have hl := hB.1.2.1
  have hA : aP y z k p ≤ 6 ∧ aP y z k p ≤ nP y z k p := m6_le (nP y z k p)
  have hX : ∀ i, i < aP y z k p → (0 ≤ qX y z k f p i ∧ qX y z k f p i ≤ 1395) ∧ 0 ≤ qY y z k f p i ∧ qY y z k f p i ≤ 1395 := fun i hi => qX_bd hN.1.2.1 hN.1.2.2.1 (by omega)
  have nc := nmd_cnt (X := qX y z k f p) (Y := qY y z k f p) (l := l) (o := f 4) (A := aP y z k p) (i := i) hl hA.1 hi
  have pn := prN l.length hl
  have Np : 0 < l.length * (l.length - 1) / 2 := by have := pn.2.2 (by omega); omega
  have F496 : ∀ a b, fitN (qX y z k f p) (qY y z k f p) l (f 4) a b ≤ 496 := fun a b => fitN_496 _ _ l (f 4) a b hl
  refine enX12_seekOdds ?_
  unfold fX12_seekOdds_0
  unfold oddU oddL at h
  have key : ∀ (m q : Nat) (A : PS), q + m = 6 → Fr [] [50, 51] [] [] P A → gL A 0 50 = iL ((odU (fitN (qX y z k f p) (qY y z k f p) l (f 4)) (nmAt y z k l f p i) q / Nat.gcd (odU (fitN (qX y z k f p) (qY y z k f p) l (f 4)) (nmAt y z k l f p i) q) (odL (l.length * (l.length - 1) / 2) (nmAt y z k l f p i) q) : Nat)) → gL A 0 51 = iL ((odL (l.length * (l.length - 1) / 2) (nmAt y z k l f p i) q / Nat.gcd (odU (fitN (qX y z k f p) (qY y z k f p) l (f 4)) (nmAt y z k l f p i) q) (odL (l.length * (l.length - 1) / 2) (nmAt y z k l f p i) q) : Nat)) → cX12_seekOdds_14 (0, 0, 0, 0) (d + 2) (iI (i : Nat)) (iI (bfN (nmAt y z k l f p i) q)) (iI (q : Nat)) A R Q := by
    intro m
    induction m with
    | zero =>
      intro q A hq fA u1 u2
      have : q = 6 := by omega
      subst this
      refine gX12_seekOdds_14 ?_
      unfold fX12_seekOdds_14
      exact ⟨fun _ => h A u1 u2 fA, fun c => absurd (by decide) c⟩
    | succ m ih =>
      intro q A hq fA u1 u2
      have bf := bfN_ok (nmAt y z k l f p i) q
      refine gX12_seekOdds_14 ?_
      unfold fX12_seekOdds_14
      rw [show (6 : Int32) = iI 6 from rfl, iI_le (by omega) (by omega) (by omega) (by omega), show (0 : Int32) = iI 0 from rfl, iI_lt (by omega) (by omega) (by omega) (by omega), show iI (q : Nat) + 1 = iI ((q + 1 : Nat)) from iI_add (q : Nat) 1]
      refine ⟨fun c => absurd c (by omega), fun _ => M_isNamed rfl rfl (hN.same fA) hi (by omega) ?_⟩
      dsimp only [hx1, rI]
      rw [show iI 0 = (0 : Int32) from rfl, oI_dec]
      have st := ih (q + 1) 
      refine ⟨fun c => ⟨fun c1 => ?_, fun c1 => ?_⟩, fun c => ?_⟩
      · have c' := Decidable.not_not.mp c
        have e : bfN (nmAt y z k l f p i) (q + 1) = q := by rw [bfN_s, if_neg c']
        have := st A (by omega) fA (by rw [odU_s, odL_s, if_pos (Or.inr c1), if_pos (Or.inr c1)]; exact u1) (by rw [odU_s, odL_s, if_pos (Or.inr c1), if_pos (Or.inr c1)]; exact u2)
        rw [e] at this; exact this
      · have c' := Decidable.not_not.mp c
        have e : bfN (nmAt y z k l f p i) (q + 1) = q := by rw [bfN_s, if_neg c']
        have cn : ¬ (nmAt y z k l f p i q = 32 ∨ bfN (nmAt y z k l f p i) q < 0) := by rintro (g | g); exact c' g; exact c1 g
        have qA : q < aP y z k p := Classical.byContradiction (fun g => c' (by unfold nmAt; rw [if_neg g]))
        have N' := hN.same fA
        have ui := odU_le (F := fitN (qX y z k f p) (qY y z k f p) l (f 4)) (g := nmAt y z k l f p i) F496 q
        have li := odL_le (g := nmAt y z k l f p i) pn.1 q
        have ui' := odU_le (F := fitN (qX y z k f p) (qY y z k f p) l (f 4)) (g := nmAt y z k l f p i) F496 (q + 1)
        have li' := odL_le (g := nmAt y z k l f p i) pn.1 (q + 1)
        have l0 := odL_pos (g := nmAt y z k l f p i) Np q
        have eU : odU (fitN (qX y z k f p) (qY y z k f p) l (f 4)) (nmAt y z k l f p i) (q + 1) = odU (fitN (qX y z k f p) (qY y z k f p) l (f 4)) (nmAt y z k l f p i) q * fitN (qX y z k f p) (qY y z k f p) l (f 4) (bfN (nmAt y z k l f p i) q).toNat q := by rw [odU_s, if_neg cn]
        have eL : odL (l.length * (l.length - 1) / 2) (nmAt y z k l f p i) (q + 1) = odL (l.length * (l.length - 1) / 2) (nmAt y z k l f p i) q * (l.length * (l.length - 1) / 2) := by rw [odL_s, if_neg cn]
        have p5 := p496 (q + 1) (by omega)
        refine M_fitting (i := (bfN (nmAt y z k l f p i) q).toNat) (j := q) (congrArg iI (by omega)) rfl (by omega) qA hA.1 N'.1.2.2.2.1 N'.1.2.2.1 hX N'.1.2.2.2.2.1 ?_
        dsimp only [hx1, rI]
        refine ⟨by decide, ?_⟩
        have f4 := F496 (bfN (nmAt y z k l f p i) q).toNat q
        rw [N'.1.2.2.2.1.1.1, pairI l.length hl, iI_l (by omega) (by omega), iI_l (by omega) (by omega), u1, u2, iL_mul, iL_mul, ← Int.natCast_mul, ← Int.natCast_mul]
        have rm := red_mul (odU (fitN (qX y z k f p) (qY y z k f p) l (f 4)) (nmAt y z k l f p i) q) (odL (l.length * (l.length - 1) / 2) (nmAt y z k l f p i) q) (fitN (qX y z k f p) (qY y z k f p) l (f 4) (bfN (nmAt y z k l f p i) q).toNat q) (l.length * (l.length - 1) / 2) l0
        rw [← eU, ← eL] at rm
        have st := st
        rw [rm.1, rm.2, e] at st
        generalize fitN (qX y z k f p) (qY y z k f p) l (f 4) (bfN (nmAt y z k l f p i) q).toNat q = FF at *
        generalize l.length * (l.length - 1) / 2 = NN at *
        generalize odU (fitN (qX y z k f p) (qY y z k f p) l (f 4)) (nmAt y z k l f p i) q = UU at *
        generalize odL NN (nmAt y z k l f p i) q = LL at *
        have gp : 0 < Nat.gcd UU LL := Nat.gcd_pos_of_pos_right UU l0
        have lp : 0 < LL / Nat.gcd UU LL := Nat.div_pos (Nat.le_of_dvd l0 (Nat.gcd_dvd_right UU LL)) gp
        have bU : UU / Nat.gcd UU LL * FF ≤ UU * FF := Nat.mul_le_mul (Nat.div_le_self _ _) (Nat.le_refl _)
        have bL : LL / Nat.gcd UU LL * NN ≤ LL * NN := Nat.mul_le_mul (Nat.div_le_self _ _) (Nat.le_refl _)
        have lpN : 0 < LL / Nat.gcd UU LL * NN := Nat.mul_pos lp Np
        generalize UU / Nat.gcd UU LL * FF = a at *
        generalize LL / Nat.gcd UU LL * NN = b at *
        refine M_reduce (a := (a : Nat)) (b := (b : Nat)) rfl rfl (by omega) (by omega) (by omega) ?_
        dsimp only [hx1, rV]
        have ge : Int.gcd ((a : Nat) : Int) ((b : Nat) : Int) = Nat.gcd a b := rfl
        have gp2 : 0 < Nat.gcd a b := Nat.gcd_pos_of_pos_right a lpN
        have gl2 : Nat.gcd a b ≤ b := Nat.gcd_le_right a lpN
        rw [ge, iL_div (by omega) (by omega) (by omega) (by omega), iL_div (by omega) (by omega) (by omega) (by omega), ← Int.natCast_ediv, ← Int.natCast_ediv]
        exact st _ (by omega) ((fA.sL (by simp)).sL (by simp)) rfl rfl
      · have c' := Decidable.not_not.mp (fun g => c g)
        have e : bfN (nmAt y z k l f p i) (q + 1) = bfN (nmAt y z k l f p i) q := by rw [bfN_s, if_pos c']
        have := st A (by omega) fA (by rw [odU_s, odL_s, if_pos (Or.inl c'), if_pos (Or.inl c')]; exact u1) (by rw [odU_s, odL_s, if_pos (Or.inl c'), if_pos (Or.inl c')]; exact u2)
        rw [e] at this; exact this
  have e0 : ∀ F : Nat → Nat → Nat, odU F (nmAt y z k l f p i) 0 = 1 := fun F => rfl
  have e1 : odL (l.length * (l.length - 1) / 2) (nmAt y z k l f p i) 0 = 1 := rfl
  exact key 6 0 _ (by omega) ((Fr.rf.sL (by simp)).sL (by simp)) (by rw [e0, e1]; rfl) (by rw [e0, e1]; rfl)
