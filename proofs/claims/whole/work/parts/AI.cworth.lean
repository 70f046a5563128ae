/-! ===== RULES: the class weighs ===== -/
theorem C_joined {d : Nat} {a : NT} {w x y : Int32} {R : List PS} {Q : Option AV → List PS → Prop} (hw : w = iI (cw a)) (ha : 20 ≤ a.1 ∧ a.1 ≤ 27 ∧ a.1 ≠ 22) (h : Q (some (vI (wk a.1 x y))) R) : Tri 63 d [vI w, vI x, vI y] R Q := by
  refine enX5_joined ?_
  unfold fX5_joined_0
  have cs : a.1 = 20 ∨ a.1 = 21 ∨ a.1 = 23 ∨ a.1 = 24 ∨ a.1 = 25 ∨ a.1 = 26 ∨ a.1 = 27 := by omega
  rcases cs with e | e | e | e | e | e | e
  · have ec : w = (-11 : Int32) := by rw [hw]; unfold cw; rw [e]; rfl
    rw [e, show wk 20 x y = if x = 0 ∧ y = 0 then 0 else 1 from rfl] at h
    rw [ec]
    refine ⟨fun c => absurd c (by decide), fun _ => ⟨fun c => absurd c (by decide), fun _ => ⟨fun c => absurd c (by decide), fun _ => ⟨fun c => absurd c (by decide), fun _ => ⟨fun c => absurd c (by decide), fun _ => ⟨fun c => absurd c (by decide), fun _ => ⟨fun _ => ?_, fun c => absurd rfl c⟩⟩⟩⟩⟩⟩⟩
    refine ⟨fun g => ?_, fun g => ⟨fun g1 => ?_, fun g1 => ?_⟩⟩
    · rw [if_neg (fun q => g q.1)] at h; exact h
    · rw [if_pos ⟨g, g1⟩] at h; exact h
    · rw [if_neg (fun q => g1 q.2)] at h; exact h
  · have ec : w = (-12 : Int32) := by rw [hw]; unfold cw; rw [e]; rfl
    rw [e, show wk 21 x y = if x = 0 ∨ y = 0 then 0 else 1 from rfl] at h
    rw [ec]
    refine ⟨fun c => absurd c (by decide), fun _ => ⟨fun c => absurd c (by decide), fun _ => ⟨fun c => absurd c (by decide), fun _ => ⟨fun c => absurd c (by decide), fun _ => ⟨fun c => absurd c (by decide), fun _ => ⟨fun _ => ?_, fun c => absurd rfl c⟩⟩⟩⟩⟩⟩
    refine ⟨fun g => ?_, fun g => ⟨fun g1 => ?_, fun g1 => ?_⟩⟩
    · rw [if_pos (Or.inl g)] at h; exact h
    · rw [if_pos (Or.inr g1)] at h; exact h
    · rw [if_neg (fun q => q.elim g g1)] at h; exact h
  · have ec : w = (-16 : Int32) := by rw [hw]; unfold cw; rw [e]; rfl
    rw [e, show wk 23 x y = if x = y then 1 else 0 from rfl] at h
    rw [ec]
    refine ⟨fun c => absurd c (by decide), fun _ => ⟨fun _ => ⟨fun g => ?_, fun g => ?_⟩, fun c => absurd rfl c⟩⟩
    · rw [if_neg g] at h; exact h
    · rw [if_pos g] at h; exact h
  · have ec : w = (-14 : Int32) := by rw [hw]; unfold cw; rw [e]; rfl
    rw [e, show wk 24 x y = if y ≤ x then 0 else 1 from rfl] at h
    rw [ec]
    refine ⟨fun c => absurd c (by decide), fun _ => ⟨fun c => absurd c (by decide), fun _ => ⟨fun c => absurd c (by decide), fun _ => ⟨fun _ => ⟨fun g => ?_, fun g => ?_⟩, fun c => absurd rfl c⟩⟩⟩⟩
    · rw [if_pos g] at h; exact h
    · rw [if_neg g] at h; exact h
  · have ec : w = (-15 : Int32) := by rw [hw]; unfold cw; rw [e]; rfl
    rw [e, show wk 25 x y = if x ≤ y then 0 else 1 from rfl] at h
    rw [ec]
    refine ⟨fun c => absurd c (by decide), fun _ => ⟨fun c => absurd c (by decide), fun _ => ⟨fun _ => ⟨fun g => ?_, fun g => ?_⟩, fun c => absurd rfl c⟩⟩⟩
    · rw [if_pos g] at h; exact h
    · rw [if_neg g] at h; exact h
  · have ec : w = (-17 : Int32) := by rw [hw]; unfold cw; rw [e]; rfl
    rw [e, show wk 26 x y = x + y from rfl] at h
    rw [ec]
    exact ⟨fun _ => h, fun c => absurd rfl c⟩
  · have ec : w = (-18 : Int32) := by rw [hw]; unfold cw; rw [e]; rfl
    rw [e, show wk 27 x y = x - y from rfl] at h
    rw [ec]
    exact ⟨fun c => absurd c (by decide), fun _ => ⟨fun c => absurd c (by decide), fun _ => ⟨fun c => absurd c (by decide), fun _ => ⟨fun c => absurd c (by decide), fun _ => ⟨fun c => absurd c (by decide), fun _ => ⟨fun c => absurd c (by decide), fun _ => ⟨fun c => absurd c (by decide), fun _ => h⟩⟩⟩⟩⟩⟩⟩
def AsC (A : Nat → Int32) (P : PS) : Prop := ∀ j, 1 ≤ j → j ≤ 8 → gA P 0 9 (j - 1) = A j
/-- of a pool of RULES only the stack of j has changed -/
def frK (j : Nat) (P P' : PS) : Prop := FrJ j P P' ∧ (∀ a, gI P' j a = gI P j a) ∧ ∀ a i, a ≠ 3 → gA P' j a i = gA P j a i
theorem frK.rf {j : Nat} {P : PS} : frK j P P := ⟨FrJ.rf, fun _ => rfl, fun _ _ _ => rfl⟩
theorem frK.tr {j : Nat} {P P' P'' : PS} (h : frK j P P') (h' : frK j P' P'') : frK j P P'' := ⟨h.1.tr h'.1, fun a => (h'.2.1 a).trans (h.2.1 a), fun a i ha => (h'.2.2 a i ha).trans (h.2.2 a i ha)⟩
theorem frK.sA {j i : Nat} {v : Int32} {P P' : PS} (h : frK j P P') : frK j P (sA P' j 3 i v) := ⟨h.1.sA, h.2.1, fun a i' ha => by rw [gA_sA, if_neg ha]; exact h.2.2 a i' ha⟩
theorem C_w6 {d j e : Nat} {A : Nat → Int32} {P40 : PS} {P0 P1 P2 P3 P5 P6 P7 P8 P9 P10 P11 P12 : PS} {R : List PS} {Q : Option AV → List PS → Prop} (he : e ≤ 400) (hA : AsC A P12) : ∀ (D : List NT) (k : Nat) (st : List Int32) (P4 : PS), k + D.length = e → (∀ i, i < D.length → gA P40 j 0 (k + i) = iI (cw (D.getD i (0, 0)))) → VC D → st.length ≤ 41 → hts 41 D st.length = some 1 → skA (gA P4 j 3) st → frK j P40 P4 →
    (∀ P4', frK j P40 P4' → Q (some (vI ((evS A D st).headD 0))) (P0 :: P1 :: P2 :: P3 :: P4' :: P5 :: P6 :: P7 :: P8 :: P9 :: P10 :: P11 :: P12 :: R)) → cX5_worthOf_6 (0, 0, 0, 0) (d + 1) j (iI (e : Nat)) (iI (st.length : Nat)) (iI (k : Nat)) P0 P1 P2 P3 P4 P5 P6 P7 P8 P9 P10 P11 P12 R Q := by
  intro D
  induction D with
  | nil =>
    intro k st P4 hk hc hV hl hh hs hf h
    have hk : k = e := by have : k + 0 = e := hk; omega
    have l1 : st.length = 1 := Option.some.inj hh
    refine gX5_worthOf_6 ?_
    unfold fX5_worthOf_6
    rw [iI_le (by omega) (by omega) (by omega) (by omega), l1]
    refine ⟨fun _ => ⟨fun g => absurd g (by decide), fun _ => ⟨vpk (k := 0) (by omega) (by omega), ?_⟩⟩, fun g => absurd (by omega) g⟩
    have z : gA P4 j 3 ((0 : Int32).toNatClampNeg) = st.headD 0 := by
      show gA P4 j 3 0 = _
      obtain ⟨x, s1, rfl⟩ := ln1 (st := st) (by omega)
      have : s1 = [] := List.length_eq_zero_iff.mp (by have : s1.length + 1 = 1 := l1; omega)
      subst this
      exact (skA_tl hs).2
    rw [z]
    exact h P4 hf
  | cons a D ih =>
    intro k st P4 hk hc hV hl hh hs hf h
    have hk : k + (D.length + 1) = e := hk
    have hc0 := hc 0 (by show 0 < D.length + 1; omega)
    rw [Nat.add_zero] at hc0
    have hc0 : gA P40 j 0 k = iI (cw a) := hc0
    have hc1 : ∀ i, i < D.length → gA P40 j 0 (k + 1 + i) = iI (cw (D.getD i (0, 0))) := fun i hi => by
      have := hc (i + 1) (by show i + 1 < D.length + 1; omega)
      rw [show k + (i + 1) = k + 1 + i by omega] at this
      exact this
    have ok := hV a (List.mem_cons_self ..)
    have hV' : VC D := fun x hx => hV x (List.mem_cons_of_mem _ hx)
    have w : gA P4 j 0 k = iI (cw a) := by rw [hf.2.2 _ _ (by decide)]; exact hc0
    have vk : vp_in (iI (k : Nat)) 400 := vpk (by omega) (by omega)
    have up : ∀ (st' : List Int32) (v : Int32) (n : Nat), n = st'.length → skA (gA P4 j 3) st' → skA (gA (sA P4 j 3 n v) j 3) (v :: st') := fun st' v n hn h' => skA_up h' (fun i => by rw [gA_sA, if_pos rfl, if_pos rfl, hn])
    have cb : (a.1 < 20 → -8 ≤ cw a ∧ cw a ≤ 9999) ∧ (a.1 = 22 → cw a = -13) ∧ (¬ a.1 < 20 → a.1 ≠ 22 → -18 ≤ cw a ∧ cw a ≤ -11 ∧ cw a ≠ -13) := by
      unfold okN at ok
      refine ⟨fun g => ?_, fun g => ?_, fun g g1 => ?_⟩
      · unfold cw
        split
        · omega
        · rw [if_pos (by omega)]; omega
      · unfold cw; rw [g]; rfl
      · unfold cw
        rw [if_neg (by omega), if_neg (by omega)]
        split; omega
        split; omega
        split; omega
        split; omega
        split; omega
        split <;> omega
    have cbd : -18 ≤ cw a ∧ cw a ≤ 9999 := by
      by_cases c : a.1 < 20
      · have := cb.1 c; omega
      · by_cases c1 : a.1 = 22
        · have := cb.2.1 c1; omega
        · have := cb.2.2 c c1; omega
    refine gX5_worthOf_6 ?_
    unfold fX5_worthOf_6
    rw [iI_le (by omega) (by omega) (by omega) (by omega), show (400 : Int32) = iI 400 from rfl, iI_le (by omega) (by omega) (by omega) (by omega), iI_cl (a := (k : Nat)) (by omega) (by omega), Int.toNat_natCast, w, show iI (k : Nat) + 1 = iI ((k + 1 : Nat)) from iI_add _ 1, show (-11 : Int32) = iI (-11) from rfl, iI_le (a := cw a) (by omega) (by omega) (by omega) (by omega), show (-13 : Int32) = iI (-13) from rfl, iI_eq (a := cw a) (by omega) (by omega) (by omega) (by omega)]
    refine ⟨fun g => absurd g (by omega), fun _ => ⟨fun g => absurd g (by omega), fun _ => ⟨vk, fun c => ⟨fun c1 => ?_, fun c1 => ?_⟩, fun c => ?_⟩⟩⟩
    · have n20 : ¬ a.1 < 20 := fun g => by have := cb.1 g; omega
      have n22 : a.1 ≠ 22 := fun g => c1 (cb.2.1 g)
      unfold hts at hh
      rw [if_neg n20, if_neg n22] at hh
      split at hh
      · rename_i l2
        obtain ⟨y, x, st', rfl⟩ := ln2 l2
        have s1 := skA_tl hs
        have s2 := skA_tl s1.1
        have l41 : st'.length + 2 ≤ 41 := hl
        have hh : hts 41 D (st'.length + 1) = some 1 := hh
        have e0 : iI ((y :: x :: st').length : Nat) = iI ((st'.length + 2 : Nat)) := rfl
        have e1 : iI ((st'.length + 2 : Nat)) - 1 = iI ((st'.length + 1 : Nat)) := by
          rw [show (1 : Int32) = iI 1 from rfl, iI_sub]; refine congrArg iI ?_; omega
        have e2 : iI ((st'.length + 2 : Nat)) - 2 = iI (st'.length : Nat) := by
          rw [show (2 : Int32) = iI 2 from rfl, iI_sub]; refine congrArg iI ?_; omega
        have g1 : gA P4 j 3 (st'.length + 1) = y := s1.2
        have g2 : gA P4 j 3 st'.length = x := s2.2
        rw [e0]
        refine enX5_join ?_
        unfold fX5_join_0
        rw [e1, e2, iI_cl (a := ((st'.length + 1 : Nat) : Int)) (by omega) (by omega), iI_cl (a := (st'.length : Nat)) (by omega) (by omega), Int.toNat_natCast, Int.toNat_natCast, g1, g2, nI_iI, show (2 : Int32) = iI 2 from rfl, iI_lt (by omega) (by omega) (by omega) (by omega), iI_le (by omega) (by omega) (by omega) (by omega)]
        refine ⟨fun g => absurd g (by omega), fun _ => ⟨fun _ => ⟨vpk (by omega) (by omega), vpk (by omega) (by omega), C_joined rfl (by unfold okN at ok; omega) ?_⟩, fun g => absurd (by omega) g⟩⟩
        dsimp only [hx5, rI]
        refine ⟨vpk (by omega) (by omega), ?_⟩
        dsimp only [hx13, rI]
        refine ih (k + 1) (wk a.1 x y :: st') _ (by omega) hc1 hV' (by show st'.length + 1 ≤ 41; omega) hh (up st' _ _ rfl s2.1) hf.sA (fun P' f' => ?_)
        have := h P' f'
        rw [show evS A (a :: D) (y :: x :: st') = evS A D (wk a.1 x y :: st') by
          show evS A D (stpV A a (y :: x :: st')) = _
          unfold stpV
          rw [if_neg n20, if_neg n22]; rfl] at this
        exact this
      · cases hh
    · have n20 : ¬ a.1 < 20 := fun g => by have := cb.1 g; omega
      have n22 : a.1 = 22 := Decidable.not_not.mp (fun g => (cb.2.2 n20 g).2.2 c1)
      unfold hts at hh
      rw [if_neg n20, if_pos n22] at hh
      split at hh
      · rename_i l1
        obtain ⟨x, st', rfl⟩ := ln1 l1
        have s1 := skA_tl hs
        have l41 : st'.length + 1 ≤ 41 := hl
        have hh : hts 41 D (st'.length + 1) = some 1 := hh
        have e0 : iI ((x :: st').length : Nat) = iI ((st'.length + 1 : Nat)) := rfl
        have e2 : iI ((st'.length + 1 : Nat)) - 1 = iI (st'.length : Nat) := by
          rw [show (1 : Int32) = iI 1 from rfl, iI_sub]; refine congrArg iI ?_; omega
        have g1 : gA P4 j 3 st'.length = x := s1.2
        have ev : evS A (a :: D) (x :: st') = evS A D ((if x = 0 then 1 else 0) :: st') := by
          show evS A D (stpV A a (x :: st')) = _
          unfold stpV
          rw [if_neg n20, if_pos n22]; rfl
        rw [ev] at h
        rw [e0]
        refine enX5_turnOver ?_
        unfold fX5_turnOver_0
        have vs : vp_in (iI (st'.length : Nat)) 41 := vpk (by omega) (by omega)
        rw [e2, iI_cl (a := (st'.length : Nat)) (by omega) (by omega), Int.toNat_natCast, g1, nI_iI, iI_lt (by omega) (by omega) (by omega) (by omega), show iI ((st'.length + 1 : Nat)) ≤ (0 : Int32) ↔ ((st'.length + 1 : Nat) : Int) ≤ 0 from iI_le (b := 0) (by omega) (by omega) (by omega) (by omega)]
        refine ⟨fun g => absurd g (by omega), fun _ => ⟨fun g => absurd g (by omega), fun _ => ⟨vs, fun c2 => ⟨vs, ?_⟩, fun c2 => ⟨vs, ?_⟩⟩⟩⟩
        · rw [if_neg c2] at h
          dsimp only [hx13, rV]
          exact ih (k + 1) (0 :: st') _ (by omega) hc1 hV' (by show st'.length + 1 ≤ 41; omega) hh (up st' _ _ rfl s1.1) hf.sA h
        · rw [if_pos c2] at h
          dsimp only [hx13, rV]
          exact ih (k + 1) (1 :: st') _ (by omega) hc1 hV' (by show st'.length + 1 ≤ 41; omega) hh (up st' _ _ rfl s1.1) hf.sA h
      · cases hh
    · have n20 : a.1 < 20 := Decidable.not_not.mp (fun g => by
        by_cases c1 : a.1 = 22
        · have := cb.2.1 c1; omega
        · have := cb.2.2 g c1; omega)
      unfold hts at hh
      rw [if_pos n20] at hh
      split at hh
      · rename_i l41
        have o8 : 0 ≤ a.1 ∧ a.1 ≤ 8 ∧ (a.1 = 0 → 0 ≤ a.2 ∧ a.2 ≤ 9999) := by
          rcases ok with g | g
          · exact g
          · omega
        have vs : vp_in (iI (st.length : Nat)) 41 := vpk (by omega) (by omega)
        have ev : evS A (a :: D) st = evS A D ((if a.1 = 0 then iI a.2 else A a.1.toNat) :: st) := by
          show evS A D (stpV A a st) = _
          unfold stpV
          rw [if_pos n20]
        rw [ev] at h
        refine enX5_push ?_
        unfold fX5_push_0
        have e1 : (-1 : Int32) - iI (cw a) = iI (-1 - cw a) := by rw [show (-1 : Int32) = iI (-1) from rfl, iI_sub]
        rw [e1, show iI (st.length : Nat) + 1 = iI ((st.length + 1 : Nat)) from iI_add _ 1, iI_cl (a := (st.length : Nat)) (by omega) (by omega), Int.toNat_natCast, nI_iI, nI_iI, iI_lt (by omega) (by omega) (by omega) (by omega), show iI (-1 - cw a) < (0 : Int32) ↔ -1 - cw a < 0 from iI_lt (b := 0) (by omega) (by omega) (by omega) (by omega), iI_le (by omega) (by omega) (by omega) (by omega)]
        refine ⟨fun _ => ⟨fun c1 => ⟨vs, ?_⟩, fun c1 => ⟨fun c2 => ?_, fun c2 => ⟨?_, vs, ?_⟩⟩⟩, fun g => absurd (by omega) g⟩
        · have a0 : a.1 = 0 := Decidable.not_not.mp (fun g => by
            have : cw a = -a.1 := by unfold cw; rw [if_neg g, if_pos (by omega)]
            omega)
          have ca : cw a = a.2 := by unfold cw; rw [if_pos a0]
          rw [if_pos a0] at h
          rw [ca]
          dsimp only [hx13, rI]
          exact ih (k + 1) (iI a.2 :: st) _ (by omega) hc1 hV' (by show st.length + 1 ≤ 41; omega) hh (up st _ _ rfl hs) hf.sA h
        · have := cb.1 n20; omega
        · have := cb.1 n20
          rw [iI_in (by omega) (by omega)]; omega
        · have a0 : ¬ a.1 = 0 := fun g => by
            have : cw a = a.2 := by unfold cw; rw [if_pos g]
            have := o8.2.2 g
            omega
          have ca : cw a = -a.1 := by unfold cw; rw [if_neg a0, if_pos (by omega)]
          rw [if_neg a0] at h
          have q : gA P12 0 9 ((iI (-1 - cw a)).toNatClampNeg) = A a.1.toNat := by
            rw [iI_cl (by omega) (by omega), ca, show (-1 - -a.1).toNat = a.1.toNat - 1 by omega]
            exact hA _ (by omega) (by omega)
          rw [q]
          dsimp only [hx13, rI]
          exact ih (k + 1) (A a.1.toNat :: st) _ (by omega) hc1 hV' (by show st.length + 1 ≤ 41; omega) hh (up st _ _ rfl hs) hf.sA h
      · cases hh
theorem LwC.fk {j u : Nat} {rs : List RLt} {P P' : PS} (h : LwC j rs u P) (hf : frK j P P') : LwC j rs u P' :=
  ⟨by rw [hf.2.1]; exact h.1, ⟨by rw [hf.2.1]; exact h.2.1.1, by rw [hf.2.1]; exact h.2.1.2.1, fun i hi => by rw [hf.2.2 _ _ (by decide)]; exact h.2.1.2.2 i hi⟩, fun r hr => by rw [hf.2.2 _ _ (by decide), hf.2.2 _ _ (by decide)]; exact h.2.2 r hr⟩
theorem C_weigh {d j u : Nat} {A : Nat → Int32} {rs : List RLt} {P0 P1 P2 P3 P4 P5 P6 P7 P8 P9 P10 P11 P12 : PS} {R : List PS} {Q : Option AV → List PS → Prop} (hL : LwC j rs u P4) (hA : AsC A P12) (hK : RsK rs) (hV : VC (cds rs)) (hl : (cds rs).length ≤ 400) (h : ∀ P4', frK j P4 P4' → Q (some (vI (iI (trS A rs)))) (P0 :: P1 :: P2 :: P3 :: P4' :: P5 :: P6 :: P7 :: P8 :: P9 :: P10 :: P11 :: P12 :: R)) : Tri 58 (d + 3) [vR 4 j 0, vR 12 0 10] (P0 :: P1 :: P2 :: P3 :: P4 :: P5 :: P6 :: P7 :: P8 :: P9 :: P10 :: P11 :: P12 :: R) Q := by
  have h6 := hK.1
  have key : ∀ (m r : Nat) (P4' : PS), r + m = rs.length → frK j P4 P4' → (∀ P4', frK j P4 P4' → Q (some (vI (iI (trS A (rs.drop r))))) (P0 :: P1 :: P2 :: P3 :: P4' :: P5 :: P6 :: P7 :: P8 :: P9 :: P10 :: P11 :: P12 :: R)) → cX5_weigh_4 (0, 0, 0, 0) (d + 2) j (iI ((cds (rs.take r)).length : Nat)) (iI (r : Nat)) P0 P1 P2 P3 P4' P5 P6 P7 P8 P9 P10 P11 P12 R Q := by
    intro m
    induction m with
    | zero =>
      intro r A4 hm hf h
      refine gX5_weigh_4 ?_
      unfold fX5_weigh_4
      have := h A4 hf
      rw [List.drop_of_length_le (by omega)] at this
      rw [show gI A4 j 4 = _ from (hL.fk hf).1, iI_le (by omega) (by omega) (by omega) (by omega)]
      exact ⟨fun _ => this, fun g => absurd (by omega) g⟩
    | succ m ih =>
      intro r A4 hm hf h
      have LA := hL.fk hf
      have hr : r < rs.length := by omega
      have ca := cds_at rs r hr
      have kr := hK.2 _ (getD_mem hr)
      have le := LA.2.2 r hr
      refine gX5_weigh_4 ?_
      unfold fX5_weigh_4
      rw [show gI A4 j 4 = _ from LA.1, iI_le (by omega) (by omega) (by omega) (by omega), show (6 : Int32) = iI 6 from rfl, iI_le (by omega) (by omega) (by omega) (by omega), iI_cl (a := (r : Nat)) (by omega) (by omega), Int.toNat_natCast, show gA A4 j 1 r = _ from le.1, show iI (r : Nat) + 1 = iI ((r + 1 : Nat)) from iI_add _ 1]
      refine ⟨fun g => absurd g (by omega), fun _ => ⟨fun g => absurd g (by omega), fun _ => ⟨vpk (by omega) (by omega), ?_⟩⟩⟩
      refine enX5_worthOf ?_
      unfold fX5_worthOf_0
      refine C_w6 (P40 := A4) (by omega) hA (rs.getD r (0, [])).2 (cds (rs.take r)).length [] A4 (by omega) (fun i hi => ?_) (VC_at hV _ (getD_mem hr)) (by show 0 ≤ 41; omega) (kr.2.1.2 41 0 (by omega)) skA_nl frK.rf (fun B4 fB => ?_)
      · have := LA.2.1.2.2 ((cds (rs.take r)).length + i) (by omega)
        rw [ca.1 i hi] at this
        exact this
      · have LB := LA.fk fB
        have leB := LB.2.2 r hr
        dsimp only [hx13, rI]
        rw [show gA B4 j 1 r = _ from leB.1, show gA B4 j 2 r = _ from leB.2]
        rw [drop_at hr] at h
        unfold trS at h
        refine ⟨fun c => ⟨vpk (by omega) (by omega), ?_⟩, fun c => ⟨vpk (by omega) (by omega), ?_⟩⟩
        · rw [if_pos (show evR A (rs.getD r (0, [])).2 = 0 from c)] at h
          exact ih (r + 1) B4 (by omega) (hf.tr fB) h
        · rw [if_neg (show ¬ evR A (rs.getD r (0, [])).2 = 0 from c)] at h
          exact h B4 (hf.tr fB)
  refine enX5_weigh ?_
  unfold fX5_weigh_0
  exact key rs.length 0 P4 (by omega) frK.rf h
