/-! ===== FOLLOW: the Model ===== -/
theorem fD_bd {y : SY} {z k : Int} {a b p q w : Nat} {x v : Int} (hKa : LtK a w z (y.2.1 a)) (hKb : LtK b w z (y.2.1 b)) (hx : -999 ≤ x ∧ x ≤ 999) (hv : -999 ≤ v ∧ v ≤ 999) (hp : p < nP y z k a) (hq : q < nP y z k b) : 0 ≤ fD y z k a b x v p q ∧ fD y z k a b x v p q ≤ 3000 := by
  have b1 := pXY_bd (k := k) hKa hp
  have b2 := pXY_bd (k := k) hKb hq
  have n1 := abZ_nn (ppX y z k b q - (ppX y z k a p + x))
  have n2 := abZ_nn (ppY y z k b q - (ppY y z k a p + v))
  have l1 : abZ (ppX y z k b q - (ppX y z k a p + x)) ≤ 1500 := abZ_le (by omega) (by omega)
  have l2 : abZ (ppY y z k b q - (ppY y z k a p + v)) ≤ 1500 := abZ_le (by omega) (by omega)
  unfold fD; omega
theorem nrM_bd {D : Nat → Int} {tk : Nat → Bool} : ∀ n : Nat, (∀ q, q < n → 0 ≤ D q ∧ D q ≤ 3000) → -1 ≤ (nrM D tk n).1 ∧ (nrM D tk n).1 < n ∧ 0 ≤ (nrM D tk n).2 ∧ (nrM D tk n).2 ≤ 3000
  | 0, _ => by unfold nrM; exact ⟨by omega, by omega, by omega, by omega⟩
  | q + 1, h => by
    have ih := nrM_bd (tk := tk) q (fun i hi => h i (by omega))
    have d := h q (by omega)
    rw [nrM_s]
    split
    · omega
    · exact ⟨by show (-1 : Int) ≤ q; omega, by show (q : Int) < (q + 1 : Nat); omega, d⟩
theorem nr_bd {D : Nat → Int} {tk : Nat → Bool} {M : Int} {n : Nat} (h : ∀ q, q < n → 0 ≤ D q ∧ D q ≤ 3000) : -1 ≤ nr D tk M n ∧ nr D tk M n < n := by
  have := nrM_bd (tk := tk) n h
  unfold nr
  split <;> omega
theorem M_seekFollowed {d w : Nat} {y : SY} {z t a b x v k : Int} {l : List SR} {f : Nat → Int} {x1 x2 x3 x4 x5 : Int32} {P : PS} {R : List PS} {Q : Option AV → List PS → Prop} (e1 : x1 = iI a) (e2 : x2 = iI b) (e3 : x3 = iI x) (e4 : x4 = iI v) (e5 : x5 = iI k) (ha : -2147483648 ≤ a ∧ a < 2147483648) (hb : -2147483648 ≤ b ∧ b < 2147483648) (hx : -2147483648 ≤ x ∧ x < 2147483648) (hv : -2147483648 ≤ v ∧ v < 2147483648) (hk : -2147483648 ≤ k ∧ k < 2147483648) (hS : StM y w z t P) (hB : BoM l f P) (hF : FOK f) (hy : ∀ P', okF y a b x v k → FlM y z k f a.toNat b.toNat x v P' → Fr flI [] flA [] P P' → Q (some (vI 1)) (P' :: R)) (hn : ¬ okF y a b x v k → Q (some (vI 0)) (P :: R)) : Tri 249 (d + 4) [vR 0 0 0, vI x1, vI x2, vI x3, vI x4, vI x5] (P :: R) Q := by
  subst e1 e2 e3 e4 e5
  refine enX12_seekFollowed ?_
  unfold fX12_seekFollowed_0
  refine M_counts rfl rfl ha hk hS ?_
  dsimp only [hx1, rI]
  rw [oI_z]
  refine ⟨fun c => ⟨Or.inl rfl, hn (fun g => by have := g.1; rw [c] at this; exact absurd this (by decide))⟩, fun c => ?_⟩
  refine M_counts rfl rfl hb hk hS ?_
  dsimp only [hx1, rI]
  rw [oI_z]
  refine ⟨fun c1 => ⟨Or.inl rfl, hn (fun g => by have := g.2.1; rw [c1] at this; exact absurd this (by decide))⟩, fun c1 => ?_⟩
  have q1 : iI x < (-999 : Int32) ↔ x < -999 := by rw [show (-999 : Int32) = iI (-999) from rfl]; exact iI_lt (by omega) (by omega) (by omega) (by omega)
  have q2 : (999 : Int32) < iI x ↔ 999 < x := by rw [show (999 : Int32) = iI 999 from rfl]; exact iI_lt (by omega) (by omega) (by omega) (by omega)
  have q3 : iI v < (-999 : Int32) ↔ v < -999 := by rw [show (-999 : Int32) = iI (-999) from rfl]; exact iI_lt (by omega) (by omega) (by omega) (by omega)
  have q4 : iI v ≤ (999 : Int32) ↔ v ≤ 999 := by rw [show (999 : Int32) = iI 999 from rfl]; exact iI_le (by omega) (by omega) (by omega) (by omega)
  rw [q1, q2, q3, q4]
  refine ⟨fun c2 => ⟨Or.inl rfl, hn (fun g => by have := g.2.2; omega)⟩, fun c2 => ⟨fun c3 => ⟨Or.inl rfl, hn (fun g => by have := g.2.2; omega)⟩, fun c3 => ⟨fun c4 => ⟨Or.inl rfl, hn (fun g => by have := g.2.2; omega)⟩, fun c4 => ⟨fun c5 => ?_, fun c5 => ⟨Or.inl rfl, hn (fun g => by have := g.2.2; omega)⟩⟩⟩⟩⟩
  have ct : cntS y a k = true := by simpa using c
  have ct1 : cntS y b k = true := by simpa using c1
  have ok : okF y a b x v k := ⟨ct, ct1, by omega, by omega⟩
  have ap := cntS_lt ct
  have bp := cntS_lt ct1
  have Ka := (hS.2.2.2.2.2 a.toNat ap.2).2.1
  have Kb := (hS.2.2.2.2.2 b.toNat bp.2).2.1
  have na12 := nP_le y z k a.toNat
  have nb12 := nP_le y z k b.toNat
  have f4 := hF.2.2.2.2.1
  have Dbd : ∀ p, p < nP y z k a.toNat → ∀ q, q < nP y z k b.toNat → 0 ≤ fD y z k a.toNat b.toNat x v p q ∧ fD y z k a.toNat b.toNat x v p q ≤ 3000 := fun p hp q hq => fD_bd Ka Kb (by omega) (by omega) hp hq
  -- the loop over the first picture's points
  have main : ∀ (m p : Nat) (A : PS), p + m = nP y z k a.toNat → Fr flI [] flA [] P A → LaM y z k b.toNat A → gI A 0 64 = iI (nP y z k a.toNat : Nat) → (∀ i, i < nP y z k a.toNat → gA A 0 60 i = iI (ppX y z k a.toNat i + x) ∧ gA A 0 61 i = iI (ppY y z k a.toNat i + v)) → gI A 0 65 = iI ((fwT (fD y z k a.toNat b.toNat x v) (10 * f 4) (nP y z k b.toNat) p).2 : Nat) → (∀ i, i < 12 → gA A 0 63 i = oI ((fwT (fD y z k a.toNat b.toNat x v) (10 * f 4) (nP y z k b.toNat) p).1 i)) → (∀ i, i < p → gA A 0 62 i = iI (nr (fD y z k a.toNat b.toNat x v i) (fwT (fD y z k a.toNat b.toNat x v) (10 * f 4) (nP y z k b.toNat) i).1 (10 * f 4) (nP y z k b.toNat))) → cX12_seekFollowed_177 (0, 0, 0, 0) (d + 3) (iI (p : Nat)) A R Q := by
    intro m
    induction m with
    | zero =>
      intro p A hp fA lA fm fx fo tk be
      have : p = nP y z k a.toNat := by omega
      subst this
      refine gX12_seekFollowed_177 ?_
      unfold fX12_seekFollowed_177
      rw [show gI A 0 64 = _ from fm]
      exact ⟨fun _ => ⟨Or.inr rfl, hy A ok ⟨fm, lA.2.2.1, fo, be⟩ fA⟩, fun g => absurd (by rw [iI_le (by omega) (by omega) (by omega) (by omega)]; omega) g⟩
    | succ m ih =>
      intro p A hp fA lA fm fx fo tk be
      have hpa : p < nP y z k a.toNat := by omega
      have bA : BoM l f A := hB.fr fA (by simp) (by simp) (by simp) (by simp) (by simp)
      have le := fwT_le (fD y z k a.toNat b.toNat x v) (10 * f 4) (nP y z k b.toNat) p
      have nb := nr_bd (tk := (fwT (fD y z k a.toNat b.toNat x v) (10 * f 4) (nP y z k b.toNat) p).1) (M := 10 * f 4) (Dbd p hpa)
      have sa := fwT_s (fD y z k a.toNat b.toNat x v) (10 * f 4) (nP y z k b.toNat) p
      refine gX12_seekFollowed_177 ?_
      unfold fX12_seekFollowed_177
      rw [show gI A 0 64 = _ from fm, iI_le (by omega) (by omega) (by omega) (by omega)]
      refine ⟨fun g => absurd g (by omega), fun _ => ?_⟩
      generalize hT : (fwT (fD y z k a.toNat b.toNat x v) (10 * f 4) (nP y z k b.toNat) p) = T at *
      generalize hDp : fD y z k a.toNat b.toNat x v p = Dp at *
      have mb := nrM_bd (D := Dp) (tk := T.1) (nP y z k b.toNat) (by rw [← hDp]; exact Dbd p hpa)
      have fin : cX12_seekFollowed_333 (0, 0, 0, 0) (d + 3) (iI (p : Nat)) (iI (nrM Dp T.1 (nP y z k b.toNat)).1) (iI (p : Nat)) (iI (nr Dp T.1 (10 * f 4) (nP y z k b.toNat))) A R Q := by
        have go : ∀ B, Fr flI [] flA [] P B → LaM y z k b.toNat B → gI B 0 64 = iI (nP y z k a.toNat : Nat) → (∀ i, i < nP y z k a.toNat → gA B 0 60 i = iI (ppX y z k a.toNat i + x) ∧ gA B 0 61 i = iI (ppY y z k a.toNat i + v)) → gI B 0 65 = iI ((fwT (fD y z k a.toNat b.toNat x v) (10 * f 4) (nP y z k b.toNat) (p + 1)).2 : Nat) → (∀ i, i < 12 → gA B 0 63 i = oI ((fwT (fD y z k a.toNat b.toNat x v) (10 * f 4) (nP y z k b.toNat) (p + 1)).1 i)) → (∀ i, i ≠ p → gA B 0 62 i = gA A 0 62 i) → gA B 0 62 p = iI (nr Dp T.1 (10 * f 4) (nP y z k b.toNat)) → cX12_seekFollowed_177 (0, 0, 0, 0) (d + 3) (iI ((p + 1 : Nat))) B R Q := by
          intro B fB lB fm' fx' fo' tk' be' bp'
          refine ih (p + 1) B (by omega) fB lB fm' fx' fo' tk' (fun i hi => ?_)
          by_cases e : i = p
          · subst e; rw [hT, hDp]; exact bp'
          · rw [be' i e]; exact be i (by omega)
        refine gX12_seekFollowed_333 ?_
        unfold fX12_seekFollowed_333
        rw [iI_cl (a := (p : Nat)) (by omega) (by omega), Int.toNat_natCast]
        have rd : gA (sA A 0 62 p (iI (nr Dp T.1 (10 * f 4) (nP y z k b.toNat)))) 0 62 p = iI (nr Dp T.1 (10 * f 4) (nP y z k b.toNat)) := by rw [gA_sA, if_pos rfl, if_pos rfl, if_pos rfl]
        have rdo : ∀ i, i ≠ p → gA (sA A 0 62 p (iI (nr Dp T.1 (10 * f 4) (nP y z k b.toNat)))) 0 62 i = gA A 0 62 i := fun i hi => by rw [gA_sA, if_pos rfl, if_pos rfl, if_neg hi]
        have vp : vp_in (iI (p : Nat)) 12 := vpk (by omega) (by omega)
        rw [rd, show (0 : Int32) = iI 0 from rfl, iI_le (by omega) (by omega) (by omega) (by omega), show iI (p : Nat) + 1 = iI ((p + 1 : Nat)) from iI_add (p : Nat) 1]
        have fA1 : Fr [] [] [62] [] A (sA A 0 62 p (iI (nr Dp T.1 (10 * f 4) (nP y z k b.toNat)))) := Fr.rf.sA (by simp)
        refine ⟨vp, vp, fun g => ?_, fun g => ?_⟩
        · have er : nr Dp T.1 (10 * f 4) (nP y z k b.toNat) = (nrM Dp T.1 (nP y z k b.toNat)).1 := by
            unfold nr at g ⊢
            split at g
            · rename_i cc; rw [if_pos cc]
            · omega
          have w1 : vp_in (iI (nrM Dp T.1 (nP y z k b.toNat)).1) 12 := by rw [iI_in (by omega) (by omega)]; omega
          rw [if_neg (by omega)] at sa
          refine ⟨w1, Or.inr rfl, ?_⟩
          rw [iI_cl (a := (nrM Dp T.1 (nP y z k b.toNat)).1) (by omega) (by omega), show gI A 0 65 = _ from fo, show iI (T.2 : Nat) + 1 = iI ((T.2 + 1 : Nat)) from iI_add (T.2 : Nat) 1]
          refine go _ (((fA.sA (by simp)).sA (by simp)).sI (by simp)) (lA.fr (is := [65]) (ls := []) (as := [62, 63]) (bs := []) (((Fr.rf.sA (by simp)).sA (by simp)).sI (by simp)) (by simp) (by simp) (by simp) (by simp) (by simp) (by simp) (by simp) (by simp) (by simp) (by simp)) fm fx ?_ (fun i hi => ?_) (fun i hi => rdo i hi) rd
          · rw [sa]; rfl
          · rw [sa]
            show gA (sA (sA A 0 62 p _) 0 63 _ 1) 0 63 i = oI (decide (i = (nr Dp T.1 (10 * f 4) (nP y z k b.toNat)).toNat) || T.1 i)
            rw [gA_sA, if_pos rfl, if_pos rfl, ← er]
            by_cases e : i = (nr Dp T.1 (10 * f 4) (nP y z k b.toNat)).toNat
            · rw [if_pos e, decide_eq_true e, Bool.true_or]; rfl
            · rw [if_neg e, decide_eq_false e, Bool.false_or]; exact tk i hi
        · rw [if_pos (by omega)] at sa
          refine go _ (fA.sA (by simp)) (lA.fr fA1 (by simp) (by simp) (by simp) (by simp) (by simp) (by simp) (by simp) (by simp) (by simp) (by simp)) fm fx (by rw [sa]; exact fo) (fun i hi => by rw [sa]; exact tk i hi) (fun i hi => rdo i hi) rd
      have inner : ∀ (m q : Nat), q + m = nP y z k b.toNat → cX12_seekFollowed_195 (0, 0, 0, 0) (d + 3) (iI (p : Nat)) (iI (nrM Dp T.1 q).1) (iI (nrM Dp T.1 q).2) (iI (q : Nat)) A R Q := by
        intro m
        induction m with
        | zero =>
          intro q hq
          have : q = nP y z k b.toNat := by omega
          subst this
          refine gX12_seekFollowed_195 ?_
          unfold fX12_seekFollowed_195
          rw [show gI A 0 43 = _ from lA.2.2.1, show ((4 : Int32)).toNatClampNeg = 4 from rfl, show gA A 0 12 4 = _ from bA.2 4 (by omega), show (10 : Int32) = iI 10 from rfl, iI_mul, show (0 : Int32) = iI 0 from rfl, iI_lt (by omega) (by omega) (by omega) (by omega), iI_lt (by omega) (by omega) (by omega) (by omega), iI_le (by omega) (by omega) (by omega) (by omega)]
          unfold nr at fin
          refine ⟨fun _ => ⟨fun g => ?_, fun g => ⟨vpk (k := 4) (by omega) (by omega), fun g1 => ?_, fun g1 => ?_⟩⟩, fun g => absurd (by omega) g⟩
          · rw [if_neg (by omega)] at fin; exact fin
          · rw [if_neg (by omega)] at fin; exact fin
          · rw [if_pos (by omega)] at fin; exact fin
        | succ n ihn =>
          intro q hq
          have qb : q < nP y z k b.toNat := by omega
          have la := lA.xy qb
          have st := ihn (q + 1) (by omega)
          rw [nrM_s] at st
          have db := Dbd p hpa q qb
          rw [hDp] at db
          have mq := nrM_bd (D := Dp) (tk := T.1) q (fun i hi => by rw [← hDp]; exact Dbd p hpa i (by omega))
          have px := pXY_bd (k := k) Ka hpa
          have py := pXY_bd (k := k) Kb qb
          refine gX12_seekFollowed_195 ?_
          unfold fX12_seekFollowed_195
          have vq : vp_in (iI (q : Nat)) 12 := vpk (by omega) (by omega)
          have vp : vp_in (iI (p : Nat)) 12 := vpk (by omega) (by omega)
          rw [show gI A 0 43 = _ from lA.2.2.1, iI_cl (a := (q : Nat)) (by omega) (by omega), Int.toNat_natCast, iI_cl (a := (p : Nat)) (by omega) (by omega), Int.toNat_natCast, show gA A 0 31 _ = _ from la.2.2.1, show gA A 0 60 p = _ from (fx p hpa).1, iI_sub, iI_le (by omega) (by omega) (by omega) (by omega)]
          refine ⟨fun g => absurd g (by omega), fun _ => ⟨vq, la.1, la.2.1, vp, M_much rfl (by omega) (by omega) ?_⟩⟩
          dsimp only [hx1, rI]
          rw [show gA A 0 32 _ = _ from la.2.2.2, show gA A 0 61 p = _ from (fx p hpa).2, iI_sub]
          refine ⟨vq, la.1, la.2.1, vp, M_much rfl (by omega) (by omega) ?_⟩
          dsimp only [hx1, rI]
          have eD : abZ (ppX y z k b.toNat q - (ppX y z k a.toNat p + x)) + abZ (ppY y z k b.toNat q - (ppY y z k a.toNat p + v)) = Dp q := by rw [← hDp]; rfl
          rw [iI_add, eD, show gA A 0 63 q = _ from tk q (by omega), oI_z, show (0 : Int32) = iI 0 from rfl, iI_lt (by omega) (by omega) (by omega) (by omega), iI_lt (by omega) (by omega) (by omega) (by omega), show iI (q : Nat) + 1 = iI ((q + 1 : Nat)) from iI_add (q : Nat) 1]
          refine ⟨vq, fun g => ?_, fun g => ⟨fun g1 => ?_, fun g1 => ⟨fun g2 => ?_, fun g2 => ?_⟩⟩⟩
          · rw [if_pos (Or.inl (by simpa using g))] at st; exact st
          · rw [if_neg (by rintro (h | h); rw [g] at h; exact absurd h (by decide); omega)] at st; exact st
          · rw [if_neg (by rintro (h | h); rw [g] at h; exact absurd h (by decide); omega)] at st; exact st
          · rw [if_pos (Or.inr (by omega))] at st; exact st
      exact inner (nP y z k b.toNat) 0 (by omega)
  -- nothing is taken
  have clr : ∀ (m q : Nat) (A : PS), q + m = 12 → Fr flI [] flA [] P A → LaM y z k b.toNat A → gI A 0 64 = iI (nP y z k a.toNat : Nat) → (∀ i, i < nP y z k a.toNat → gA A 0 60 i = iI (ppX y z k a.toNat i + x) ∧ gA A 0 61 i = iI (ppY y z k a.toNat i + v)) → gI A 0 65 = 0 → (∀ i, i < q → gA A 0 63 i = 0) → cX12_seekFollowed_153 (0, 0, 0, 0) (d + 3) (iI (q : Nat)) A R Q := by
    intro m
    induction m with
    | zero =>
      intro q A hq fA lA fm fx fo tk
      have : q = 12 := by omega
      subst this
      refine gX12_seekFollowed_153 ?_
      unfold fX12_seekFollowed_153
      exact ⟨fun _ => main (nP y z k a.toNat) 0 A (by omega) fA lA fm fx fo (fun i hi => tk i hi) (fun i hi => absurd hi (Nat.not_lt_zero i)), fun g => absurd (by decide) g⟩
    | succ m ih =>
      intro q A hq fA lA fm fx fo tk
      refine gX12_seekFollowed_153 ?_
      unfold fX12_seekFollowed_153
      rw [show (12 : Int32) = iI 12 from rfl, iI_le (by omega) (by omega) (by omega) (by omega), iI_cl (a := (q : Nat)) (by omega) (by omega), Int.toNat_natCast, show iI (q : Nat) + 1 = iI ((q + 1 : Nat)) from iI_add (q : Nat) 1]
      refine ⟨fun g => absurd g (by omega), fun _ => ⟨vpk (by omega) (by omega), Or.inl rfl, ih (q + 1) _ (by omega) (fA.sA (by simp)) (lA.fr (is := []) (ls := []) (as := [63]) (bs := []) (Fr.rf.sA (by simp)) (by simp) (by simp) (by simp) (by simp) (by simp) (by simp) (by simp) (by simp) (by simp) (by simp)) fm fx fo (fun i hi => ?_)⟩⟩
      rw [gA_sA, if_pos rfl, if_pos rfl]
      by_cases e : i = q
      · rw [if_pos e]
      · rw [if_neg e]; exact tk i (by omega)
  -- the first picture's points are kept
  have kp : ∀ (m p : Nat) (A : PS), p + m = nP y z k a.toNat → Fr flI [] flA [] P A → LaM y z k a.toNat A → gI A 0 64 = iI (nP y z k a.toNat : Nat) → (∀ i, i < p → gA A 0 60 i = iI (ppX y z k a.toNat i + x) ∧ gA A 0 61 i = iI (ppY y z k a.toNat i + v)) → cX12_seekFollowed_70 (0, 0, 0, 0) (d + 3) (iI b) (iI x) (iI v) (iI k) (iI (p : Nat)) A R Q := by
    intro m
    induction m with
    | zero =>
      intro p A hp fA lA fm fx
      have : p = nP y z k a.toNat := by omega
      subst this
      refine gX12_seekFollowed_70 ?_
      unfold fX12_seekFollowed_70
      rw [show gI A 0 64 = _ from fm, iI_le (by omega) (by omega) (by omega) (by omega)]
      refine ⟨fun _ => ?_, fun g => absurd (by omega) g⟩
      have sA' : StM y w z t A := hS.fr fA (by simp) (by simp) (by simp) (by simp) (by simp) (by simp) (by simp)
      refine M_lookAt (p := b.toNat) (congrArg iI (by omega)) rfl hk sA' bp.2 (fun B lB fB => ?_)
      dsimp only [hx1, rV]
      have fAB : Fr flI [] flA [] P B := fA.trs (fB.mono (by simp) (by simp) (by simp) (by simp))
      refine clr 12 0 _ (by omega) (fAB.sI (by simp)) (lB.fr (is := [65]) (ls := []) (as := []) (bs := []) (Fr.rf.sI (by simp)) (by simp) (by simp) (by simp) (by simp) (by simp) (by simp) (by simp) (by simp) (by simp) (by simp)) ?_ (fun i hi => ?_) rfl (fun i hi => absurd hi (Nat.not_lt_zero i))
      · show gI B 0 64 = _
        rw [fB.2.1 64 (by simp)]; exact fm
      · show gA B 0 60 i = _ ∧ gA B 0 61 i = _
        rw [fB.2.2.2.1 60 i (by simp), fB.2.2.2.1 61 i (by simp)]; exact fx i hi
    | succ m ih =>
      intro p A hp fA lA fm fx
      have la := lA.xy (show p < nP y z k a.toNat by omega)
      refine gX12_seekFollowed_70 ?_
      unfold fX12_seekFollowed_70
      have vp : vp_in (iI (p : Nat)) 12 := vpk (by omega) (by omega)
      rw [show gI A 0 64 = _ from fm, iI_le (by omega) (by omega) (by omega) (by omega), iI_cl (a := (p : Nat)) (by omega) (by omega), Int.toNat_natCast, show gA A 0 31 _ = _ from la.2.2.1, show gA A 0 32 _ = _ from la.2.2.2, iI_add, iI_add, show iI (p : Nat) + 1 = iI ((p + 1 : Nat)) from iI_add (p : Nat) 1]
      refine ⟨fun g => absurd g (by omega), fun _ => ⟨vp, la.1, la.2.1, vp, vp, la.1, la.2.1, vp, ih (p + 1) _ (by omega) ((fA.sA (by simp)).sA (by simp)) (lA.fr (is := []) (ls := []) (as := [60, 61]) (bs := []) ((Fr.rf.sA (by simp)).sA (by simp)) (by simp) (by simp) (by simp) (by simp) (by simp) (by simp) (by simp) (by simp) (by simp) (by simp)) fm (fun i hi => ?_)⟩⟩
      by_cases e : i = p
      · subst e
        refine ⟨?_, ?_⟩
        · rw [gA_sA, if_neg (by decide), gA_sA, if_pos rfl, if_pos rfl, if_pos rfl]
        · rw [gA_sA, if_pos rfl, if_pos rfl, if_pos rfl]
      · have old := fx i (by omega)
        refine ⟨?_, ?_⟩
        · rw [gA_sA, if_neg (by decide), gA_sA, if_pos rfl, if_pos rfl, if_neg e]; exact old.1
        · rw [gA_sA, if_pos rfl, if_pos rfl, if_neg e, gA_sA, if_neg (by decide)]; exact old.2
  refine M_lookAt (p := a.toNat) (congrArg iI (by omega)) rfl hk hS ap.2 (fun B lB fB => ?_)
  dsimp only [hx1, rV]
  have fB' : Fr flI [] flA [] P B := fB.mono (by simp) (by simp) (by simp) (by simp)
  exact kp (nP y z k a.toNat) 0 _ (by omega) (fB'.sI (by simp)) (lB.fr (is := [64]) (ls := []) (as := []) (bs := []) (Fr.rf.sI (by simp)) (by simp) (by simp) (by simp) (by simp) (by simp) (by simp) (by simp) (by simp) (by simp) (by simp)) lB.2.2.1 (fun i hi => absurd hi (Nat.not_lt_zero i))
