/-! ===== image, back: both together ===== -/
theorem TriM_wf {M : MI} {d mc ms : Nat} {av : List AV} {hs : List PS} {Q : Option AV → List PS → Prop} (h : wf hs → TriM M d mc ms av hs Q) : TriM M d mc ms av hs Q := fun l D aC ρ sz hw => h hw l D aC ρ sz hw
theorem wf_pic {P0 P1 P2 P3 P4 P5 P6 P7 P8 P9 P10 P11 P12 : PS} {R : List PS} (h : wf (P0 :: P1 :: P2 :: P3 :: P4 :: P5 :: P6 :: P7 :: P8 :: P9 :: P10 :: P11 :: P12 :: R)) (h4 : 0 < gN P6) {q i : Nat} (hi : gR P6 0 0 q = some i) : i < gN P3 := ((h.2 6 0 (by decide) h4 0 (by decide)).2.1 rfl q i hi).2
theorem two_image {v1 : Int32} {hs : List PS} (h : INV hs) (h4 : 0 < cn hs 6) : Two 155 282 false 0 0 [vI v1] hs := by
  refine TriM_wf (fun hwf => ?_)
  obtain ⟨a, rfl, ha⟩ := iI_of v1
  obtain ⟨P0, P1, P2, P3, P4, P5, P6, P7, P8, P9, P10, P11, P12, b, n, e, l, f, kb, ks, y, t, X, rs, u, kl, kls, rfl, hT, hB, hU, hS, hX, hR, hO⟩ := h
  have hY := hS.2.2.1
  have hz : ∀ i, i < 256 → gA P0 0 27 i = 0 ∨ gA P0 0 27 i = 1 := fun i hi => by
    have := hS.1.2.2.2.2.1 (i % 16) (i / 16) (by omega) (by omega)
    rw [show 16 * (i / 16) + i % 16 = i by omega] at this
    rw [this]; exact oI_01 _
  refine C_image ha hO (fun P6' a0 a3 cp => M_image ha hz (fun P0' _ _ im fr => ⟨by rw [hS.1.1, hS.2.1.1], ⟨_, rfl⟩, ?_⟩) (fun c => absurd ⟨a0, a3⟩ c)) (fun c => M_image ha hz (fun P0' b0 b3 _ _ => absurd ⟨b0, b3⟩ c) (fun _ => ⟨rfl, ⟨_, rfl⟩, mkI hT hB hS hX hR hO SM.rf hU hS.st hR.2.1 id12⟩))
  generalize hA : a.toNat = A at *
  have hA3 : A < 3 := by omega
  have fj : FrJ (A + 1) P6 (sI P6' (A + 1) 7 1) := cp.1.sI
  have o := fj.2 0 (by omega)
  obtain ⟨c0, c1, c2, c3, c4, c5, c6, c7, c8⟩ := cp
  obtain ⟨i1, i2, i3, i4, i5, i6, i7⟩ := im
  have h12 : y.1 ≤ 12 := hY.1
  refine ⟨P0', P1, P2, P3, P4, P5, sI P6' (A + 1) 7 1, P7, P8, P9, P10, P11, P12, b, n, e, l, f, kb, ks, y, t, (fun i => X.1 i ∨ ∃ q, q < y.1 ∧ gR P6 0 0 q = some i, X.2), rs, u, kl, kls, rfl, ⟨hT.1.sk (fr.sk (by decide) (by decide)), hT.2.1, ⟨by rw [fr.2.1 _ (by simp)]; exact hT.2.2.1.1, by rw [fr.2.1 _ (by simp)]; exact hT.2.2.1.2⟩, hT.2.2.2⟩, ⟨hB.1.sk (fr.sk (by decide) (by decide)), hB.2⟩, hU, ⟨hS.1.sk (fr.sk (by decide) (by decide)), hS.2.1.fj fj (by omega), hY, ⟨?_, ?_⟩, ?_, ?_⟩, ?_, ⟨hR.1.sk (fr.sk (by decide) (by decide)), hR.2⟩, hO⟩
  · intro q hq i hi
    rw [o.2.2.2.2.2] at hi
    exact hS.2.2.2.1.1 q hq i hi
  · intro i hi
    rcases hi with hi | ⟨q, hq, hi⟩
    · exact hS.2.2.2.1.2 i hi
    · have g := hS.2.2.2.1.1 q hq i hi
      obtain ⟨_, _, i', k3, k4⟩ := hS.2.1.2.2.2.2 q hq
      have e1 : i' = i := by rw [k3] at hi; exact Option.some.inj hi
      subst e1
      show PiC i' (X.2 i') (f 3) P3 ∧ CaC i' (X.2 i') (f 3) l f P3
      rw [← g.2]; exact ⟨k4, g.1⟩
  · intro q q' hq hq' i hi hi'
    rw [o.2.2.2.2.2] at hi hi'
    exact hS.2.2.2.2.1 q q' hq hq' i hi hi'
  · intro i hi
    rcases hi with hi | ⟨q, hq, hi⟩
    · exact hS.2.2.2.2.2 i hi
    · exact wf_pic hwf h4 hi
  · intro k hk
    by_cases ck : k = A
    · subst ck
      have kp : gI (sI P6' (k + 1) 7 1) (k + 1) 7 = 1 := by rw [gI_sI, if_pos rfl, if_pos rfl]
      rw [kp, i7, if_pos rfl]
      refine ⟨Iff.rfl, fun _ => ⟨y, t, hY, ?_, ?_⟩⟩
      · refine ⟨by rw [i5, if_pos rfl]; exact hS.1.1, by rw [i6, if_pos rfl]; exact hS.1.2.2.1, fun c r hc hr => ?_, fun q hq => ⟨fun r c hr hc => ?_, ?_, ?_⟩⟩
        · rw [i4, if_pos (by omega), Nat.add_sub_cancel_left]; exact hS.1.2.2.2.2.1 c r hc hr
        · have g := hS.1.2.2.2.2.2 q hq
          have gw := g.2.1.2.1
          rw [i1, if_pos (by omega), Nat.add_sub_cancel_left]; exact g.1.2.2 r c hr hc
        · rw [i2, if_pos (by omega), Nat.add_sub_cancel_left]; exact (hS.1.2.2.2.2.2 q hq).2.2.1
        · rw [i3, if_pos (by omega), Nat.add_sub_cancel_left]; exact (hS.1.2.2.2.2.2 q hq).2.2.2.1
      · have nk : ∀ a, a ≠ 7 → gI (sI P6' (k + 1) 7 1) (k + 1) a = gI P6' (k + 1) a := fun a ha => by rw [gI_sI, if_neg ha]
        refine ⟨by rw [nk _ (by decide), c5]; exact hS.2.1.1, by rw [nk _ (by decide), c6]; exact hS.2.1.2.1, by rw [nk _ (by decide), c7]; exact hS.2.1.2.2.1, fun c r hc hr => ?_, fun q hq => ?_, fun q q' hq hq' i hi hi' => ?_⟩
        · show bt (gA P6' (k + 1) 3 r) _ ↔ _
          rw [c4 r hr]; exact hS.2.1.2.2.2.1 c r hc hr
        · obtain ⟨k1, k2, i, k3, k4⟩ := hS.2.1.2.2.2.2 q hq
          refine ⟨?_, ?_, i, ?_, Or.inr ⟨q, hq, k3⟩, (hS.2.2.2.1.1 q hq i k3).2⟩
          · show gA P6' (k + 1) 1 q = _
            rw [c2 q (by omega)]; exact k1
          · show gA P6' (k + 1) 2 q = _
            rw [c3 q (by omega)]; exact k2
          · show gR P6' (k + 1) 0 q = _
            rw [c1 q (by omega)]; exact k3
        · have e1 : gR P6' (k + 1) 0 q = some i := hi
          have e2 : gR P6' (k + 1) 0 q' = some i := hi'
          rw [c1 q (by omega)] at e1
          rw [c1 q' (by omega)] at e2
          exact hS.2.2.2.2.1 q q' hq hq' i e1 e2
    · have o' := (fj.2 (k + 1) (by omega)).1 7
      rw [o', i7, if_neg ck]
      refine ⟨(hX k hk).1, fun g => ?_⟩
      obtain ⟨y', t', h1, h2, h3⟩ := (hX k hk).2 g
      have h12' : y'.1 ≤ 12 := h1.1
      refine ⟨y', t', h1, ?_, (h3.fj fj (by omega)).up (fun i hi => ⟨Or.inl hi, rfl⟩)⟩
      refine ⟨by rw [i5, if_neg ck]; exact h2.1, by rw [i6, if_neg ck]; exact h2.2.1, fun c r hc hr => ?_, fun q hq => ⟨fun r c hr hc => ?_, ?_, ?_⟩⟩
      · rw [i4, if_neg (by omega)]; exact h2.2.2.1 c r hc hr
      · have gw := (h1.2.2 q hq).1.2.1
        rw [i1, if_neg (by omega)]; exact (h2.2.2.2 q hq).1 r c hr hc
      · rw [i2, if_neg (by omega)]; exact (h2.2.2.2 q hq).2.1
      · rw [i3, if_neg (by omega)]; exact (h2.2.2.2 q hq).2.2
theorem two_back {v1 : Int32} {hs : List PS} (h : INV hs) : Two 156 283 false 0 0 [vI v1] hs := by
  obtain ⟨a, rfl, ha⟩ := iI_of v1
  obtain ⟨P0, P1, P2, P3, P4, P5, P6, P7, P8, P9, P10, P11, P12, b, n, e, l, f, kb, ks, y, t, X, rs, u, kl, kls, rfl, hT, hB, hU, hS, hX, hR, hO⟩ := h
  have hz : ∀ k i, k < 3 → gA P0 0 87 k ≠ 0 → i < 256 → gA P0 0 88 (256 * k + i) = 0 ∨ gA P0 0 88 (256 * k + i) = 1 := fun k i hk hh hi => by
    obtain ⟨y', t', _, h2, _⟩ := (hX k hk).2 ((hX k hk).1.mp hh)
    have := h2.2.2.1 (i % 16) (i / 16) (by omega) (by omega)
    rw [show 16 * (i / 16) + i % 16 = i by omega] at this
    rw [this]; exact oI_01 _
  refine C_back ha hO (fun P6' a0 a3 kp cp => M_back ha hz (fun P0' _ _ hh bm fr => ?_) (fun c => absurd ⟨a0, a3, (hX a.toNat (by omega)).1.mpr kp⟩ c)) (fun c => M_back ha hz (fun P0' b0 b3 hh _ _ => absurd ⟨b0, b3, (hX a.toNat (by omega)).1.mp hh⟩ c) (fun _ => ⟨rfl, ⟨_, rfl⟩, mkI hT hB hS hX hR hO SM.rf hU hS.st hR.2.1 id12⟩))
  generalize hA : a.toNat = A at *
  have hA3 : A < 3 := by omega
  obtain ⟨y', t', h1, h2, h3⟩ := (hX A hA3).2 kp
  have h12 : y'.1 ≤ 12 := h1.1
  obtain ⟨c0, c1, c2, c3, c4, c5, c6, c7, c8⟩ := cp
  obtain ⟨i1, i2, i3, i4, i5, i6⟩ := bm
  refine ⟨by rw [h2.1, h3.1], ⟨_, rfl⟩, P0', P1, P2, P3, P4, P5, P6', P7, P8, P9, P10, P11, P12, b, n, e, l, f, kb, ks, y', t', X, rs, u, kl, kls, rfl, ⟨hT.1.sk (fr.sk (by decide) (by decide)), hT.2.1, ⟨by rw [fr.2.1 _ (by simp)]; exact hT.2.2.1.1, by rw [fr.2.1 _ (by simp)]; exact hT.2.2.1.2⟩, hT.2.2.2⟩, ⟨hB.1.sk (fr.sk (by decide) (by decide)), hB.2⟩, hU, ⟨?_, ?_, h1, ⟨?_, hS.2.2.2.1.2⟩, ?_, hS.2.2.2.2.2⟩, (hX.sk (fr.sk (by decide) (by decide))).fj c0, ⟨hR.1.sk (fr.sk (by decide) (by decide)), hR.2⟩, hO⟩
  · refine ⟨by rw [i5]; exact h2.1, h12, by rw [i6]; exact h2.2.1, h1.2.1, fun c r hc hr => ?_, fun q hq => ?_⟩
    · rw [i4, if_pos (by omega)]; exact h2.2.2.1 c r hc hr
    · have g := h1.2.2 q hq
      have gw := g.1.2.1
      refine ⟨⟨?_, ?_, fun r c hr hc => ?_⟩, g.1, ?_, ?_, g.2⟩
      · rw [fr.2.2.2.1 _ _ (by simp)]
        have := hB.1.2 0 (by omega)
        rw [this, Int.toNat_of_nonneg (by have := hB.2.1.1; omega)]
      · rw [fr.2.2.2.1 _ _ (by simp)]; exact hB.1.2 3 (by omega)
      · rw [i1, if_pos (by omega)]; exact (h2.2.2.2 q hq).1 r c hr hc
      · rw [i2, if_pos (by omega)]; exact (h2.2.2.2 q hq).2.1
      · rw [i3, if_pos (by omega)]; exact (h2.2.2.2 q hq).2.2
  · refine ⟨by rw [c5]; exact h3.1, by rw [c6]; exact h3.2.1, by rw [c7]; exact h3.2.2.1, fun c r hc hr => by rw [c4 r hr]; exact h3.2.2.2.1 c r hc hr, fun q hq => ?_⟩
    obtain ⟨k1, k2, i, k3, k4, k5⟩ := h3.2.2.2.2.1 q hq
    exact ⟨by rw [c2 q (by omega)]; exact k1, by rw [c3 q (by omega)]; exact k2, i, by rw [c1 q (by omega)]; exact k3, by rw [k5]; exact (hS.2.2.2.1.2 i k4).1⟩
  · intro q hq i hi
    obtain ⟨k1, k2, i', k3, k4, k5⟩ := h3.2.2.2.2.1 q hq
    rw [c1 q (by omega), k3] at hi
    have e1 := Option.some.inj hi
    subst e1
    exact ⟨by rw [k5]; exact (hS.2.2.2.1.2 i' k4).2, k5⟩
  · intro q q' hq hq' i hi hi'
    rw [c1 q (by omega)] at hi
    rw [c1 q' (by omega)] at hi'
    exact h3.2.2.2.2.2 q q' hq hq' i hi hi'
