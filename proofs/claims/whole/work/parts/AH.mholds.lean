theorem ln1 {st : List Int32} (h : 1 ≤ st.length) : ∃ x st', st = x :: st' := by
  cases st with
  | nil => exact absurd h (by show ¬ 1 ≤ 0; omega)
  | cons x st => exact ⟨x, st, rfl⟩
theorem ln2 {st : List Int32} (h : 2 ≤ st.length) : ∃ y x st', st = y :: x :: st' := by
  obtain ⟨y, s1, rfl⟩ := ln1 (st := st) (by omega)
  obtain ⟨x, s2, rfl⟩ := ln1 (st := s1) (by have : 2 ≤ s1.length + 1 := h; omega)
  exact ⟨y, x, s2, rfl⟩
theorem M_worked {d : Nat} {a : Int} {w x y : Int32} {R : List PS} {Q : Option AV → List PS → Prop} (hw : w = iI a) (ha : 20 ≤ a ∧ a ≤ 27 ∧ a ≠ 22) (h : Q (some (vI (wk a x y))) R) : Tri 276 d [vI w, vI x, vI y] R Q := by
  subst hw
  refine enX12_worked ?_
  unfold fX12_worked_0
  unfold wk at h
  simp (disch := omega) only [show (20 : Int32) = iI 20 from rfl, show (21 : Int32) = iI 21 from rfl, show (22 : Int32) = iI 22 from rfl, show (23 : Int32) = iI 23 from rfl, show (24 : Int32) = iI 24 from rfl, show (25 : Int32) = iI 25 from rfl, show (26 : Int32) = iI 26 from rfl, iI_eq]
  refine ⟨fun c => ?_, fun c0 => ⟨fun c => ?_, fun c1 => ⟨fun c => absurd c ha.2.2, fun _ => ⟨fun c => ?_, fun c2 => ⟨fun c => ?_, fun c3 => ⟨fun c => ?_, fun c4 => ⟨fun c => ?_, fun c5 => ?_⟩⟩⟩⟩⟩⟩⟩
  · rw [if_pos c] at h
    refine ⟨fun g => ?_, fun g => ⟨fun g1 => ?_, fun g1 => ?_⟩⟩
    · rw [if_neg (fun q => g q.1)] at h; exact h
    · rw [if_pos ⟨g, g1⟩] at h; exact h
    · rw [if_neg (fun q => g1 q.2)] at h; exact h
  · rw [if_neg c0, if_pos c] at h
    refine ⟨fun g => ?_, fun g => ⟨fun g1 => ?_, fun g1 => ?_⟩⟩
    · rw [if_pos (Or.inl g)] at h; exact h
    · rw [if_pos (Or.inr g1)] at h; exact h
    · rw [if_neg (fun q => q.elim g g1)] at h; exact h
  · rw [if_neg c0, if_neg c1, if_pos c] at h
    refine ⟨fun g => ?_, fun g => ?_⟩
    · rw [if_neg g] at h; exact h
    · rw [if_pos g] at h; exact h
  · rw [if_neg c0, if_neg c1, if_neg c2, if_pos c] at h
    refine ⟨fun g => ?_, fun g => ?_⟩
    · rw [if_pos g] at h; exact h
    · rw [if_neg g] at h; exact h
  · rw [if_neg c0, if_neg c1, if_neg c2, if_neg c3, if_pos c] at h
    refine ⟨fun g => ?_, fun g => ?_⟩
    · rw [if_pos g] at h; exact h
    · rw [if_neg g] at h; exact h
  · rw [if_neg c0, if_neg c1, if_neg c2, if_neg c3, if_neg c4, if_pos c] at h; exact h
  · rw [if_neg c0, if_neg c1, if_neg c2, if_neg c3, if_neg c4, if_neg c5] at h; exact h
/-- the numbers of a PICTURE, as rules ask for them -/
def AsM (A : Nat → Int32) (P : PS) : Prop := ∀ j, 1 ≤ j → j ≤ 8 → gA P 0 79 j = A j
theorem M_h9 {d r e : Nat} {A : Nat → Int32} {P0 : PS} {R : List PS} {Q : Option AV → List PS → Prop} (hr : r < 6) (he : e ≤ 300) (hA : AsM A P0) (hb : gA P0 0 75 (r + 1) = iI (e : Nat)) : ∀ (D : List NT) (k : Nat) (st : List Int32) (P : PS), k + D.length = e → (∀ i, i < D.length → gA P0 0 73 (k + i) = iI (D.getD i (0, 0)).1 ∧ ((D.getD i (0, 0)).1 = 0 → gA P0 0 74 (k + i) = iI (D.getD i (0, 0)).2)) → VC D → st.length ≤ 50 → hts 50 D st.length = some 1 → skA (gA P 0 78) st → Fr [] [] [78] [] P0 P →
    (∀ P', Fr [] [] [78] [] P0 P' → Q (some (vI (oI (decide ((evS A D st).headD 0 ≠ 0))))) (P' :: R)) → cX12_holds_9 (0, 0, 0, 0) d (iI (r : Nat)) (iI (st.length : Nat)) (iI (k : Nat)) P R Q := by
  intro D
  induction D with
  | nil =>
    intro k st P hk hc hV hl hh hs hf h
    have hk : k = e := by have : k + 0 = e := hk; omega
    have l1 : st.length = 1 := Option.some.inj hh
    refine gX12_holds_9 ?_
    unfold fX12_holds_9
    rw [show iI (r : Nat) + 1 = iI ((r + 1 : Nat)) from iI_add _ 1, iI_cl (a := ((r + 1 : Nat) : Int)) (by omega) (by omega), Int.toNat_natCast, show gA P 0 75 (r + 1) = iI (e : Nat) by rw [hf.2.2.2.1 _ _ (by simp)]; exact hb, iI_le (by omega) (by omega) (by omega) (by omega)]
    refine ⟨vpk (by omega) (by omega), fun _ => ⟨vpk (k := 0) (by omega) (by omega), ?_⟩, fun g => absurd (by omega) g⟩
    have z : gA P 0 78 ((0 : Int32).toNatClampNeg) = st.headD 0 := by
      show gA P 0 78 0 = _
      match st, l1, hs with
      | [x], _, hs => exact (skA_tl hs).2
    rw [z]
    have hh := h P hf
    refine ⟨fun g => ⟨Or.inl rfl, ?_⟩, fun g => ⟨Or.inr rfl, ?_⟩⟩
    · rw [decide_eq_false (show ¬ (evS A [] st).headD 0 ≠ 0 from fun q => q g)] at hh; exact hh
    · rw [decide_eq_true (show (evS A [] st).headD 0 ≠ 0 from g)] at hh; exact hh
  | cons a D ih =>
    intro k st P hk hc hV hl hh hs hf h
    have hk : k + (D.length + 1) = e := hk
    have hc0 := hc 0 (by show 0 < D.length + 1; omega)
    rw [Nat.add_zero] at hc0
    have hc0 : gA P0 0 73 k = iI a.1 ∧ (a.1 = 0 → gA P0 0 74 k = iI a.2) := hc0
    have hc1 : ∀ i, i < D.length → gA P0 0 73 (k + 1 + i) = iI (D.getD i (0, 0)).1 ∧ ((D.getD i (0, 0)).1 = 0 → gA P0 0 74 (k + 1 + i) = iI (D.getD i (0, 0)).2) := fun i hi => by
      have := hc (i + 1) (by show i + 1 < D.length + 1; omega)
      rw [show k + (i + 1) = k + 1 + i by omega] at this
      exact this
    have ok := hV a (List.mem_cons_self ..)
    have hV' : VC D := fun x hx => hV x (List.mem_cons_of_mem _ hx)
    have w : gA P 0 73 k = iI a.1 := by rw [hf.2.2.2.1 _ _ (by simp)]; exact hc0.1
    have ab : 0 ≤ a.1 ∧ a.1 ≤ 27 := by unfold okN at ok; omega
    have vk : vp_in (iI (k : Nat)) 300 := vpk (by omega) (by omega)
    have up : ∀ (st' : List Int32) (v : Int32) (n : Nat), n = st'.length → skA (gA P 0 78) st' → skA (gA (sA P 0 78 n v) 0 78) (v :: st') := fun st' v n hn h' => skA_up h' (fun i => by rw [gA_sA, if_pos rfl, if_pos rfl, hn])
    refine gX12_holds_9 ?_
    unfold fX12_holds_9
    rw [show iI (r : Nat) + 1 = iI ((r + 1 : Nat)) from iI_add _ 1, iI_cl (a := ((r + 1 : Nat) : Int)) (by omega) (by omega), Int.toNat_natCast, show gA P 0 75 (r + 1) = iI (e : Nat) by rw [hf.2.2.2.1 _ _ (by simp)]; exact hb, iI_le (by omega) (by omega) (by omega) (by omega), iI_cl (a := (k : Nat)) (by omega) (by omega), Int.toNat_natCast, w, show iI (k : Nat) + 1 = iI ((k + 1 : Nat)) from iI_add _ 1, show (20 : Int32) = iI 20 from rfl, iI_le (by omega) (by omega) (by omega) (by omega), show (22 : Int32) = iI 22 from rfl, iI_eq (a := a.1) (b := 22) (by omega) (by omega) (by omega) (by omega)]
    refine ⟨vpk (by omega) (by omega), fun g => absurd g (by omega), fun _ => ⟨vk, fun c => ⟨vk, fun c1 => ?_, fun c1 => ?_⟩, fun c => ⟨vk, ?_⟩⟩⟩
    · unfold hts at hh
      rw [if_neg (by omega), if_neg c1] at hh
      split at hh
      · rename_i l2
        obtain ⟨y, x, st', rfl⟩ := ln2 l2
        have s1 := skA_tl hs
        have s2 := skA_tl s1.1
        have l50 : st'.length + 2 ≤ 50 := hl
        have hh : hts 50 D (st'.length + 1) = some 1 := hh
        have e1 : iI ((y :: x :: st').length : Nat) + -1 = iI ((st'.length + 1 : Nat)) := by
          show iI ((st'.length + 2 : Nat)) + iI (-1) = _
          rw [iI_add]; refine congrArg iI ?_; omega
        have e2 : iI ((st'.length + 1 : Nat)) - 1 = iI (st'.length : Nat) := by
          rw [show (1 : Int32) = iI 1 from rfl, iI_sub]; refine congrArg iI ?_; omega
        have g1 : gA P 0 78 (st'.length + 1) = y := s1.2
        have g2 : gA P 0 78 st'.length = x := s2.2
        rw [e1, e2, iI_cl (a := ((st'.length + 1 : Nat) : Int)) (by omega) (by omega), iI_cl (a := (st'.length : Nat)) (by omega) (by omega), Int.toNat_natCast, Int.toNat_natCast, g1, g2]
        refine ⟨vk, vpk (by omega) (by omega), vpk (by omega) (by omega), M_worked rfl (by unfold okN at ok; omega) ?_⟩
        dsimp only [hx1, rI]
        refine ⟨vpk (by omega) (by omega), ?_⟩
        refine ih (k + 1) (wk a.1 x y :: st') _ (by omega) hc1 hV' (by show st'.length + 1 ≤ 50; omega) hh (up st' _ _ rfl s2.1) (hf.sA (by simp)) (fun P' f' => ?_)
        have := h P' f'
        rw [show evS A (a :: D) (y :: x :: st') = evS A D (wk a.1 x y :: st') by
          show evS A D (stpV A a (y :: x :: st')) = _
          unfold stpV
          rw [if_neg (by omega), if_neg c1]; rfl] at this
        exact this
      · cases hh
    · unfold hts at hh
      rw [if_neg (by omega), if_pos c1] at hh
      split at hh
      · rename_i l1
        obtain ⟨x, st', rfl⟩ := ln1 l1
        have s1 := skA_tl hs
        have l50 : st'.length + 1 ≤ 50 := hl
        have hh : hts 50 D (st'.length + 1) = some 1 := hh
        have e2 : iI ((x :: st').length : Nat) - 1 = iI (st'.length : Nat) := by
          show iI ((st'.length + 1 : Nat)) - iI 1 = _
          rw [iI_sub]; refine congrArg iI ?_; omega
        have g1 : gA P 0 78 st'.length = x := s1.2
        rw [e2, iI_cl (a := (st'.length : Nat)) (by omega) (by omega), Int.toNat_natCast, g1]
        have vs : vp_in (iI (st'.length : Nat)) 50 := vpk (by omega) (by omega)
        have ev : evS A (a :: D) (x :: st') = evS A D ((if x = 0 then 1 else 0) :: st') := by
          show evS A D (stpV A a (x :: st')) = _
          unfold stpV
          rw [if_neg (by omega), if_pos c1]; rfl
        rw [ev] at h
        refine ⟨vs, fun c2 => ⟨vs, ?_⟩, fun c2 => ⟨vs, ?_⟩⟩
        · rw [if_neg c2] at h
          exact ih (k + 1) (0 :: st') _ (by omega) hc1 hV' (by show st'.length + 1 ≤ 50; omega) hh (up st' _ _ rfl s1.1) (hf.sA (by simp)) h
        · rw [if_pos c2] at h
          exact ih (k + 1) (1 :: st') _ (by omega) hc1 hV' (by show st'.length + 1 ≤ 50; omega) hh (up st' _ _ rfl s1.1) (hf.sA (by simp)) h
      · cases hh
    · unfold hts at hh
      rw [if_pos (by omega)] at hh
      split at hh
      · rename_i l50
        have o8 : a.1 ≤ 8 := by unfold okN at ok; omega
        have vs : vp_in (iI (st.length : Nat)) 50 := vpk (by omega) (by omega)
        have ev : evS A (a :: D) st = evS A D ((if a.1 = 0 then iI a.2 else A a.1.toNat) :: st) := by
          show evS A D (stpV A a st) = _
          unfold stpV
          rw [if_pos (by omega)]
        rw [ev] at h
        rw [show iI (st.length : Nat) + 1 = iI ((st.length + 1 : Nat)) from iI_add _ 1, iI_cl (a := (st.length : Nat)) (by omega) (by omega), Int.toNat_natCast, show (0 : Int32) = iI 0 from rfl, iI_eq (a := a.1) (b := 0) (by omega) (by omega) (by omega) (by omega)]
        refine ⟨fun c1 => ⟨vk, by rw [iI_in (by omega) (by omega)]; omega, vs, ?_⟩, fun c1 => ⟨vk, vs, ?_⟩⟩
        · rw [if_neg c1] at h
          have q : gA P 0 79 ((iI a.1).toNatClampNeg) = A a.1.toNat := by
            rw [iI_cl (by omega) (by omega), hf.2.2.2.1 _ _ (by simp)]
            exact hA _ (by omega) (by omega)
          rw [q]
          exact ih (k + 1) (A a.1.toNat :: st) _ (by omega) hc1 hV' (by show st.length + 1 ≤ 50; omega) hh (up st _ _ rfl hs) (hf.sA (by simp)) h
        · rw [if_pos c1] at h
          rw [show gA P 0 74 k = iI a.2 by rw [hf.2.2.2.1 _ _ (by simp)]; exact hc0.2 c1]
          exact ih (k + 1) (iI a.2 :: st) _ (by omega) hc1 hV' (by show st.length + 1 ≤ 50; omega) hh (up st _ _ rfl hs) (hf.sA (by simp)) h
      · cases hh
theorem M_holds {d u r : Nat} {A : Nat → Int32} {rs : List RLt} {P : PS} {R : List PS} {Q : Option AV → List PS → Prop} (hR : RlM rs u P) (hA : AsM A P) (hK : RsK rs) (hV : VC (cds rs)) (hl : (cds rs).length ≤ 300) (hr : r < rs.length) (h : ∀ P', Fr [] [] [78] [] P P' → Q (some (vI (oI (decide (evR A (rs.getD r (0, [])).2 ≠ 0))))) (P' :: R)) : Tri 277 (d + 1) [vR 0 0 0, vI (iI (r : Nat))] (P :: R) Q := by
  have h6 := hK.1
  have ca := cds_at rs r hr
  have kr := hK.2 _ (getD_mem hr)
  refine enX12_holds ?_
  unfold fX12_holds_0
  rw [iI_cl (a := (r : Nat)) (by omega) (by omega), Int.toNat_natCast, show gA P 0 75 r = _ from hR.2.2.2.2 r (by omega) (by omega)]
  refine ⟨vpk (by omega) (by omega), ?_⟩
  refine M_h9 (e := (cds (rs.take (r + 1))).length) (by omega) (by omega) hA (hR.2.2.2.2 (r + 1) (by omega) (by omega)) (rs.getD r (0, [])).2 (cds (rs.take r)).length [] P (by omega) (fun i hi => ?_) (VC_at hV _ (getD_mem hr)) (by show 0 ≤ 50; omega) (kr.2.1.2 50 0 (by omega)) skA_nl Fr.rf h
  have := hR.2.2.1 ((cds (rs.take r)).length + i) (by omega)
  rw [ca.1 i hi] at this
  exact this
/-- the first rule that holds -/
theorem M_tr {d u : Nat} {A : Nat → Int32} {rs : List RLt} {P0 : PS} {R : List PS} {Q : Option AV → List PS → Prop} (hR : RlM rs u P0) (hA : AsM A P0) (hK : RsK rs) (hV : VC (cds rs)) (hl : (cds rs).length ≤ 300) : ∀ (m r : Nat) (P : PS), r + m = rs.length → Fr [] [] [78] [] P0 P → (∀ P', Fr [] [] [78] [] P0 P' → Q (some (vI (iI (trS A (rs.drop r))))) (P' :: R)) → cX12_trustOf_166 (0, 0, 0, 0) (d + 1) (iI (r : Nat)) P R Q := by
  intro m
  induction m with
  | zero =>
    intro r P hm hf h
    have h6 := hK.1
    refine gX12_trustOf_166 ?_
    unfold fX12_trustOf_166
    rw [show gI P 0 83 = iI (rs.length : Nat) by rw [hf.2.1 _ (by simp)]; exact hR.1, iI_le (by omega) (by omega) (by omega) (by omega)]
    have := h P hf
    rw [List.drop_of_length_le (by omega)] at this
    exact ⟨fun _ => this, fun g => absurd (by omega) g⟩
  | succ m ih =>
    intro r P hm hf h
    have h6 := hK.1
    refine gX12_trustOf_166 ?_
    unfold fX12_trustOf_166
    rw [show gI P 0 83 = iI (rs.length : Nat) by rw [hf.2.1 _ (by simp)]; exact hR.1, iI_le (by omega) (by omega) (by omega) (by omega)]
    refine ⟨fun g => absurd g (by omega), fun _ => ?_⟩
    have RP : RlM rs u P := ⟨by rw [hf.2.1 _ (by simp)]; exact hR.1, by rw [hf.2.1 _ (by simp)]; exact hR.2.1, fun i hi => by rw [hf.2.2.2.1 _ _ (by simp), hf.2.2.2.1 _ _ (by simp)]; exact hR.2.2.1 i hi, fun r hr => by rw [hf.2.2.2.1 _ _ (by simp)]; exact hR.2.2.2.1 r hr, fun r hr hp => by rw [hf.2.2.2.1 _ _ (by simp)]; exact hR.2.2.2.2 r hr hp⟩
    have AP : AsM A P := fun j h1 h8 => by rw [hf.2.2.2.1 _ _ (by simp)]; exact hA j h1 h8
    refine M_holds RP AP hK hV hl (by omega) (fun P' f' => ?_)
    dsimp only [hx1, rI]
    rw [drop_at (show r < rs.length by omega)] at h
    unfold trS at h
    rw [oI_dec, iI_cl (a := (r : Nat)) (by omega) (by omega), Int.toNat_natCast, show iI (r : Nat) + 1 = iI ((r + 1 : Nat)) from iI_add _ 1, show gA P' 0 76 r = iI (rs.getD r (0, [])).1 by rw [f'.2.2.2.1 _ _ (by simp)]; exact RP.2.2.2.1 r (by omega)]
    refine ⟨fun c => ?_, fun c => ⟨vpk (by omega) (by omega), ?_⟩⟩
    · rw [if_pos (Decidable.not_not.mp c)] at h
      exact ih (r + 1) P' (by omega) (hf.trs f') h
    · rw [if_neg (Decidable.not_not.mp c)] at h
      exact h P' (hf.trs f')
