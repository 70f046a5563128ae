/-! ===== the class: stars that are open, sides ===== -/
/-- a name as the namer keeps it -/
def vu (n : Nat) : Nat := if n = 32 then 63 else n
def StrC (v : Nat → Nat) (i : Nat) (P : PS) : Prop := ∀ q, q < i → gA P 0 3 q = iI (vu (v q) : Nat)
def VoK (l : List SR) (v : Nat → Nat) (i : Nat) : Prop := ∀ q, q < i → v q = 32 ∨ v q < l.length
theorem vu_t {l : List SR} (hl : l.length ≤ 32) {n : Nat} (h : n = 32 ∨ n < l.length) : (vu n < 64) ∧ (vu n < l.length ↔ n ≠ 32) ∧ (vu n < 32 ↔ n ≠ 32) ∧ (n ≠ 32 → vu n = n) ∧ (n = 32 → vu n = 63) := by
  unfold vu
  split <;> omega
theorem bz_low : ∀ n, n < 32 → ∀ i, i < 32 → bz (((1 : Int32) <<< ((iI (n : Nat)) &&& 31)) - 1) i = decide (i < n) := by decide +kernel
theorem dcd_c {p q : Prop} (h : p ↔ q) : dcd p = dcd q := by rw [propext h]
/-- the star e fits the names before -/
noncomputable def opB (X Y : Nat → Int) (l : List SR) (o : Int) (i : Nat) (v : Nat → Nat) (n e : Nat) : Bool := dcd (e < l.length ∧ ∀ p, p < n → v p = 32 ∨ (v p ≠ e ∧ fitS X Y l o p i (v p) e))
theorem C_openStars {d i kb : Nat} {v : Nat → Nat} {X Y : Nat → Int} {l : List SR} {o : Int} {P0 P1 P2 P3 P4 P5 P6 P7 P8 : PS} {R : List PS} {Q : Option AV → List PS → Prop} (hi : i < 6) (hB : SsC kb l P2) (hF : ∀ p, p < i → FbC X Y l o p i P8) (hv : VoK l v i) (hS : StrC v i P8) (h : ∀ x, (∀ e, e < 32 → bz x e = opB X Y l o i v i e) → Q (some (vI x)) (P0 :: P1 :: P2 :: P3 :: P4 :: P5 :: P6 :: P7 :: P8 :: R)) : Tri 32 (d + 1) [vR 8 0 0, vI (iI (i : Nat)), vR 2 kb 0] (P0 :: P1 :: P2 :: P3 :: P4 :: P5 :: P6 :: P7 :: P8 :: R) Q := by
  have hl := hB.2.1
  have key : ∀ (m b : Nat) (x : Int32), b + m = i → (∀ e, e < 32 → bz x e = opB X Y l o i v b e) → cX2_openStars_25 (0, 0, 0, 0) d (iI (i : Nat)) kb x (iI (b : Nat)) P0 P1 P2 P3 P4 P5 P6 P7 P8 R Q := by
    intro m
    induction m with
    | zero =>
      intro b x hb hx
      refine gX2_openStars_25 ?_
      unfold fX2_openStars_25
      rw [iI_le (by omega) (by omega) (by omega) (by omega)]
      refine ⟨fun _ => h x ?_, fun c => absurd (by omega) c⟩
      rw [show b = i by omega] at hx; exact hx
    | succ m ih =>
      intro b x hb hx
      have vb := hv b (by omega)
      have tb := vu_t hl vb
      have hpr := prO_ok i (by omega) b (by omega)
      refine gX2_openStars_25 ?_
      unfold fX2_openStars_25
      rw [iI_le (by omega) (by omega) (by omega) (by omega), show (6 : Int32) = iI 6 from rfl, iI_le (by omega) (by omega) (by omega) (by omega), iI_cl (a := (b : Nat)) (by omega) (by omega), Int.toNat_natCast, hS b (by omega), show iI (b : Nat) + 1 = iI ((b + 1 : Nat)) from iI_add (b : Nat) 1]
      have v6 : vp_in (iI (b : Nat)) 6 := vpk (by omega) (by omega)
      refine ⟨fun c => absurd c (by omega), fun _ => ⟨fun c => absurd c (by omega), fun _ => ⟨v6, C_has rfl (by omega) hB ?_⟩⟩⟩
      dsimp only [hx9, rI]
      rw [oI_dec]
      refine ⟨fun c => ih (b + 1) x (by omega) (fun e he => ?_), fun c => C_pairOf rfl rfl (by omega) (by omega) ?_⟩
      · rw [hx e he]
        unfold opB
        have v32 : v b = 32 := by omega
        refine dcd_c ⟨fun g => ⟨g.1, fun p hp => ?_⟩, fun g => ⟨g.1, fun p hp => g.2 p (by omega)⟩⟩
        by_cases cp : p = b
        · rw [cp]; exact Or.inl v32
        · exact g.2 p (by omega)
      · dsimp only [hx9, rI]
        have vn : v b ≠ 32 := by omega
        have e1 : vu (v b) = v b := tb.2.2.2.1 vn
        rw [hS b (by omega), e1, show ((i * (i - 1) / 2 + b : Nat)) = prO b i from rfl]
        have o1 : iI (prO b i : Nat) * 32 + iI (v b : Nat) = iI ((prO b i * 32 + v b : Nat)) := by rw [show (32 : Int32) = iI 32 from rfl, iI_mul, iI_add]; congr 1
        rw [o1, iI_cl (a := ((prO b i * 32 + v b : Nat) : Int)) (by omega) (by omega), Int.toNat_natCast]
        refine ⟨v6, vpk (by omega) (by omega), ih (b + 1) _ (by omega) (fun e he => ?_)⟩
        rw [bz_and, hx e he, hF b (by omega) (v b) e (by omega) he]
        unfold opB ftB
        by_cases ce : e < l.length
        · by_cases cf : fitS X Y l o b i (v b) e
          · by_cases cn : v b = e
            · rw [decide_eq_false (by omega), Bool.false_and, Bool.and_false]
              refine (dcd_f.mpr (fun g => ?_)).symm
              rcases g.2 b (by omega) with q | q
              · exact vn q
              · exact q.1 cn
            · rw [decide_eq_true (by omega), dcd_t.mpr cf, Bool.and_true, Bool.and_true]
              refine dcd_c ⟨fun g => ⟨g.1, fun p hp => ?_⟩, fun g => ⟨g.1, fun p hp => g.2 p (by omega)⟩⟩
              by_cases cp : p = b
              · rw [cp]; exact Or.inr ⟨cn, cf⟩
              · exact g.2 p (by omega)
          · rw [dcd_f.mpr cf, Bool.and_false, Bool.and_false]
            refine (dcd_f.mpr (fun g => ?_)).symm
            rcases g.2 b (by omega) with q | q
            · exact vn q
            · exact cf q.2
        · rw [dcd_f.mpr (fun g => ce g.1), Bool.false_and]
          exact (dcd_f.mpr (fun g => ce g.1)).symm
  refine enX2_openStars ?_
  unfold fX2_openStars_0
  rw [hB.1, show (32 : Int32) = iI 32 from rfl, iI_le (by omega) (by omega) (by omega) (by omega)]
  refine ⟨fun c => ?_, fun c => ?_⟩
  · refine key i 0 _ (by omega) (fun e he => ?_)
    rw [bz_m1 e he]
    exact (dcd_t.mpr ⟨by omega, fun p hp => absurd hp (Nat.not_lt_zero p)⟩).symm
  · refine key i 0 _ (by omega) (fun e he => ?_)
    rw [bz_low l.length (by omega) e he]
    unfold opB
    by_cases ce : e < l.length
    · rw [decide_eq_true ce]; exact (dcd_t.mpr ⟨ce, fun p hp => absurd hp (Nat.not_lt_zero p)⟩).symm
    · rw [decide_eq_false ce]; exact (dcd_f.mpr (fun g => ce g.1)).symm
theorem C_pointSide {d i j r A : Nat} {X Y : Nat → Int} {x1 x2 x3 : Int32} {P0 P1 P2 P3 P4 P5 P6 P7 P8 : PS} {R : List PS} {Q : Option AV → List PS → Prop} (e1 : x1 = iI (i : Nat)) (e2 : x2 = iI (j : Nat)) (e3 : x3 = iI (r : Nat)) (hi : i < A) (hj : j < A) (hr : r < A) (hA : A ≤ 6) (hX : ∀ i, i < A → (0 ≤ X i ∧ X i ≤ 1395) ∧ 0 ≤ Y i ∧ Y i ≤ 1395) (hP : PlC X Y A P8) (h : Q (some (vI (iI (sg (crP X Y i j r))))) (P0 :: P1 :: P2 :: P3 :: P4 :: P5 :: P6 :: P7 :: P8 :: R)) : Tri 34 (d + 1) [vR 8 0 0, vI x1, vI x2, vI x3] (P0 :: P1 :: P2 :: P3 :: P4 :: P5 :: P6 :: P7 :: P8 :: R) Q := by
  subst e1 e2 e3
  have bi := hX i hi
  have bj := hX j hj
  have br := hX r hr
  have m1 := mul_bd (a := X j - X i) (b := Y r - Y i) (A := 1395) (B := 1395) (by omega) (by omega) (by omega) (by omega)
  have m2 := mul_bd (a := Y j - Y i) (b := X r - X i) (A := 1395) (B := 1395) (by omega) (by omega) (by omega) (by omega)
  have vi : vp_in (iI (i : Nat)) 6 := vpk (by omega) (by omega)
  have vj : vp_in (iI (j : Nat)) 6 := vpk (by omega) (by omega)
  have vr : vp_in (iI (r : Nat)) 6 := vpk (by omega) (by omega)
  refine enX2_pointSide ?_
  unfold fX2_pointSide_0
  rw [iI_cl (a := (i : Nat)) (by omega) (by omega), iI_cl (a := (j : Nat)) (by omega) (by omega), iI_cl (a := (r : Nat)) (by omega) (by omega), Int.toNat_natCast, Int.toNat_natCast, Int.toNat_natCast, (hP.2 i hi).1, (hP.2 i hi).2, (hP.2 j hj).1, (hP.2 j hj).2, (hP.2 r hr).1, (hP.2 r hr).2]
  refine ⟨vj, vi, vr, vi, vj, vi, vr, vi, J_signum (v := crP X Y i j r) ?_ (by unfold crP; omega) (by unfold crP; omega) ?_⟩
  · simp only [iI_sub, iI_mul]; rfl
  · dsimp only [hx9, rI]; exact h
theorem C_starSide {d a b c kb : Nat} {l : List SR} {f : Nat → Int} {x1 x2 x3 : Int32} {P0 P1 P2 : PS} {R : List PS} {Q : Option AV → List PS → Prop} (e1 : x1 = iI (a : Nat)) (e2 : x2 = iI (b : Nat)) (e3 : x3 = iI (c : Nat)) (ha : a < l.length) (hb : b < l.length) (hc : c < l.length) (hB : BoC kb l f P2) (h : Q (some (vI (iI (sg (crS l a b c))))) (P0 :: P1 :: P2 :: R)) : Tri 35 (d + 1) [vI x1, vI x2, vI x3, vR 2 kb 0] (P0 :: P1 :: P2 :: R) Q := by
  subst e1 e2 e3
  have hl := hB.1.2.1
  have ta := hB.st ha
  have tb := hB.st hb
  have tc := hB.st hc
  have sa := hB.1.2.2.2 a ha
  have sb := hB.1.2.2.2 b hb
  have sc := hB.1.2.2.2 c hc
  have m3 := mul_bd (a := (nthS l b).2.1 - (nthS l a).2.1) (b := (nthS l c).2.2.1 - (nthS l a).2.2.1) (A := 999) (B := 999) (by omega) (by omega) (by omega) (by omega)
  have m4 := mul_bd (a := (nthS l b).2.2.1 - (nthS l a).2.2.1) (b := (nthS l c).2.1 - (nthS l a).2.1) (A := 999) (B := 999) (by omega) (by omega) (by omega) (by omega)
  have va : vp_in (iI (a : Nat)) 32 := vpk (by omega) (by omega)
  have vb : vp_in (iI (b : Nat)) 32 := vpk (by omega) (by omega)
  have vc : vp_in (iI (c : Nat)) 32 := vpk (by omega) (by omega)
  refine enX2_starSide ?_
  unfold fX2_starSide_0
  rw [iI_cl (a := (a : Nat)) (by omega) (by omega), iI_cl (a := (b : Nat)) (by omega) (by omega), iI_cl (a := (c : Nat)) (by omega) (by omega), Int.toNat_natCast, Int.toNat_natCast, Int.toNat_natCast, sa.2.1, sa.2.2.1, sb.2.1, sb.2.2.1, sc.2.1, sc.2.2.1]
  refine ⟨vb, va, vb, va, vc, va, vc, va, J_signum (v := crS l a b c) ?_ (by unfold crS; omega) (by unfold crS; omega) ?_⟩
  · simp only [iI_sub, iI_mul]; rfl
  · dsimp only [hx3, rI]; exact h
/-- the star s lies as the point i does -/
def alS (X Y : Nat → Int) (l : List SR) (i : Nat) (v : Nat → Nat) (s : Nat) : Prop := ∀ q, q < i → ∀ p, p < q → v q = 32 ∨ v p = 32 ∨ lieS X Y l p q i (v p) (v q) s
theorem C_liesAlike {d i s kb A : Nat} {v : Nat → Nat} {X Y : Nat → Int} {l : List SR} {f : Nat → Int} {P0 P1 P2 P3 P4 P5 P6 P7 P8 : PS} {R : List PS} {Q : Option AV → List PS → Prop} (hi : i < A) (hA : A ≤ 6) (hs : s < l.length) (hX : ∀ i, i < A → (0 ≤ X i ∧ X i ≤ 1395) ∧ 0 ≤ Y i ∧ Y i ≤ 1395) (hP : PlC X Y A P8) (hB : BoC kb l f P2) (hv : VoK l v i) (hS : StrC v i P8) (hy : alS X Y l i v s → Q (some (vI 1)) (P0 :: P1 :: P2 :: P3 :: P4 :: P5 :: P6 :: P7 :: P8 :: R)) (hn : ¬ alS X Y l i v s → Q (some (vI 0)) (P0 :: P1 :: P2 :: P3 :: P4 :: P5 :: P6 :: P7 :: P8 :: R)) : Tri 33 (d + 2) [vR 8 0 0, vI (iI (i : Nat)), vI (iI (s : Nat)), vR 2 kb 0] (P0 :: P1 :: P2 :: P3 :: P4 :: P5 :: P6 :: P7 :: P8 :: R) Q := by
  have hl := hB.1.2.1
  have outer : ∀ (m b : Nat), m = i - b → 1 ≤ b → b ≤ i + 1 → (∀ q, q < b → q < i → ∀ p, p < q → v q = 32 ∨ v p = 32 ∨ lieS X Y l p q i (v p) (v q) s) → cX2_liesAlike_3 (0, 0, 0, 0) (d + 1) (iI (i : Nat)) (iI (s : Nat)) kb (iI (b : Nat)) P0 P1 P2 P3 P4 P5 P6 P7 P8 R Q := by
    intro m
    induction m with
    | zero =>
      intro b hm h1 h2 hb
      refine gX2_liesAlike_3 ?_
      unfold fX2_liesAlike_3
      rw [iI_le (by omega) (by omega) (by omega) (by omega)]
      exact ⟨fun _ => ⟨Or.inr rfl, hy (fun q hq p hp => hb q (by omega) hq p hp)⟩, fun c => absurd (by omega) c⟩
    | succ m ih =>
      intro b hm h1 h2 hb
      have vb := hv b (by omega)
      have tb := vu_t hl vb
      have v6 : vp_in (iI (b : Nat)) 6 := vpk (by omega) (by omega)
      refine gX2_liesAlike_3 ?_
      unfold fX2_liesAlike_3
      rw [iI_le (by omega) (by omega) (by omega) (by omega), show (6 : Int32) = iI 6 from rfl, iI_le (by omega) (by omega) (by omega) (by omega)]
      refine ⟨fun c => absurd c (by omega), fun _ => ⟨fun c => absurd c (by omega), fun _ => ?_⟩⟩
      have next : (∀ p, p < b → v b = 32 ∨ v p = 32 ∨ lieS X Y l p b i (v p) (v b) s) → cX2_liesAlike_3 (0, 0, 0, 0) (d + 1) (iI (i : Nat)) (iI (s : Nat)) kb (iI ((b + 1 : Nat))) P0 P1 P2 P3 P4 P5 P6 P7 P8 R Q := fun g => ih (b + 1) (by omega) (by omega) (by omega) (fun q hq hqi p hp => by
        by_cases cq : q = b
        · subst cq; exact g p hp
        · exact hb q (by omega) hqi p hp)
      have inner : ∀ (n a : Nat), a + n = b → (∀ p, p < a → v b = 32 ∨ v p = 32 ∨ lieS X Y l p b i (v p) (v b) s) → cX2_liesAlike_19 (0, 0, 0, 0) (d + 1) (iI (i : Nat)) (iI (s : Nat)) kb (iI (b : Nat)) (iI (a : Nat)) P0 P1 P2 P3 P4 P5 P6 P7 P8 R Q := by
        intro n
        induction n with
        | zero =>
          intro a ha hh
          refine gX2_liesAlike_19 ?_
          unfold fX2_liesAlike_19
          rw [iI_le (by omega) (by omega) (by omega) (by omega), show iI (b : Nat) + 1 = iI ((b + 1 : Nat)) from iI_add (b : Nat) 1]
          exact ⟨fun _ => next (fun p hp => hh p (by omega)), fun c => absurd (by omega) c⟩
        | succ n ih2 =>
          intro a ha hh
          have va := hv a (by omega)
          have ta := vu_t hl va
          have a6 : vp_in (iI (a : Nat)) 6 := vpk (by omega) (by omega)
          have step : (v b = 32 ∨ v a = 32 ∨ lieS X Y l a b i (v a) (v b) s) → cX2_liesAlike_19 (0, 0, 0, 0) (d + 1) (iI (i : Nat)) (iI (s : Nat)) kb (iI (b : Nat)) (iI ((a + 1 : Nat))) P0 P1 P2 P3 P4 P5 P6 P7 P8 R Q := fun g => ih2 (a + 1) (by omega) (fun p hp => by
            by_cases cp : p = a
            · subst cp; exact g
            · exact hh p (by omega))
          refine gX2_liesAlike_19 ?_
          unfold fX2_liesAlike_19
          rw [iI_le (by omega) (by omega) (by omega) (by omega), show iI (b : Nat) + 1 = iI ((b + 1 : Nat)) from iI_add (b : Nat) 1, show iI (a : Nat) + 1 = iI ((a + 1 : Nat)) from iI_add (a : Nat) 1, iI_cl (a := (b : Nat)) (by omega) (by omega), iI_cl (a := (a : Nat)) (by omega) (by omega), Int.toNat_natCast, Int.toNat_natCast, hS b (by omega), hS a (by omega), show (32 : Int32) = iI 32 from rfl, iI_le (by omega) (by omega) (by omega) (by omega), iI_le (by omega) (by omega) (by omega) (by omega)]
          refine ⟨fun c => absurd c (by omega), fun _ => ⟨v6, fun c => next (fun p hp => Or.inl (by omega)), fun c => ⟨a6, fun c2 => step (Or.inr (Or.inl (by omega))), fun c2 => ?_⟩⟩⟩
          refine C_pointSide rfl rfl rfl (by omega) (by omega) hi hA hX hP ?_
          dsimp only [hx9, rI]
          rw [hS b (by omega), hS a (by omega), tb.2.2.2.1 (by omega), ta.2.2.2.1 (by omega)]
          refine ⟨a6, v6, C_starSide rfl rfl rfl (by omega) (by omega) hs hB ?_⟩
          dsimp only [hx9, rI]
          have g1 := sg_bd (crP X Y a b i)
          have g2 := sg_bd (crS l (v a) (v b) s)
          rw [iI_eq (by omega) (by omega) (by omega) (by omega)]
          refine ⟨fun g => step (Or.inr (Or.inr g)), fun g => ⟨Or.inl rfl, hn (fun al => ?_)⟩⟩
          rcases al b (by omega) a (by omega) with q | q | q
          · omega
          · omega
          · exact g q
      exact inner b 0 (by omega) (fun p hp => absurd hp (Nat.not_lt_zero p))
  refine enX2_liesAlike ?_
  unfold fX2_liesAlike_0
  exact outer (i - 1) 1 rfl (Nat.le_refl _) (by omega) (fun q hq hqi p hp => by omega)
theorem okR_up {X Y : Nat → Int} {l : List SR} {o : Int} {i s : Nat} {v : Nat → Nat} (hs : s < 32) (hl : s < l.length) : okR X Y l o i (upN v i s) ↔ (opB X Y l o i v i s = true ∧ alS X Y l i v s) := by
  have ei : upN v i s i = s := by unfold upN; rw [if_pos rfl]
  have ep : ∀ p, p < i → upN v i s p = v p := fun p hp => by unfold upN; rw [if_neg (by omega)]
  unfold okR opB alS
  rw [ei, dcd_t]
  constructor
  · rintro (g | g)
    · omega
    · refine ⟨⟨hl, fun p hp => ?_⟩, fun q hq p hp => ?_⟩
      · have := g p hp
        rw [ep p hp] at this
        rcases this with t | t
        · exact Or.inl t
        · exact Or.inr ⟨t.1, t.2.1⟩
      · have := g p (by omega)
        rw [ep p (by omega)] at this
        rcases this with t | t
        · exact Or.inr (Or.inl t)
        · have := t.2.2 q hp hq
          rw [ep q hq] at this
          rcases this with t' | t'
          · exact Or.inl t'
          · exact Or.inr (Or.inr t')
  · rintro ⟨⟨_, g⟩, a⟩
    refine Or.inr (fun p hp => ?_)
    rw [ep p hp]
    rcases g p hp with t | t
    · exact Or.inl t
    · by_cases c32 : v p = 32
      · exact Or.inl c32
      · refine Or.inr ⟨t.1, t.2, fun q hq hqi => ?_⟩
        rw [ep q hqi]
        rcases a q hqi p hq with t' | t' | t'
        · exact Or.inl t'
        · exact absurd t' c32
        · exact Or.inr t'
