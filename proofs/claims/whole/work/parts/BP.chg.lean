/-! ===== what changes something: tape, time, what is untold, what is speckless ===== -/
def SK (kI kA : List Nat) (P P' : PS) : Prop := (∀ a, a ∈ kI → gI P' 0 a = gI P 0 a) ∧ ∀ a, a ∈ kA → ∀ i, gA P' 0 a i = gA P 0 a i
theorem Fr.sk {kI kA is ls as bs : List Nat} {P P' : PS} (h : Fr is ls as bs P P') (h1 : (kI.all fun a => !(is.elem a)) = true) (h2 : (kA.all fun a => !(as.elem a)) = true) : SK kI kA P P' := by
  refine ⟨fun a ha => h.2.1 a (fun g => ?_), fun a ha i => h.2.2.2.1 a i (fun g => ?_)⟩
  · have := List.all_eq_true.mp h1 a ha
    rw [List.elem_eq_true_of_mem g] at this; cases this
  · have := List.all_eq_true.mp h2 a ha
    rw [List.elem_eq_true_of_mem g] at this; cases this
abbrev bkI1 : List Nat := [22]
abbrev bkA1 : List Nat := [12, 16, 17, 18]
abbrev stI1 : List Nat := [28, 29]
abbrev stA1 : List Nat := [12, 23, 25, 26, 27]
abbrev bxA1 : List Nat := [87, 88, 89, 90, 91, 92, 93]
abbrev rlI1 : List Nat := [83, 84]
abbrev rlA1 : List Nat := [73, 74, 75, 76]
theorem BoM.sk {l : List SR} {f : Nat → Int} {P P' : PS} (h : BoM l f P) (s : SK bkI1 bkA1 P P') : BoM l f P' := ⟨⟨by rw [s.1 _ (by simp)]; exact h.1.1, h.1.2.1, h.1.2.2.1, fun i hi => by rw [s.2 _ (by simp), s.2 _ (by simp), s.2 _ (by simp)]; exact h.1.2.2.2 i hi⟩, fun k hk => by rw [s.2 _ (by simp)]; exact h.2 k hk⟩
theorem StM.sk {y : SY} {w : Nat} {z t : Int} {P P' : PS} (h : StM y w z t P) (s : SK stI1 stA1 P P') : StM y w z t P' := ⟨by rw [s.1 _ (by simp)]; exact h.1, h.2.1, by rw [s.1 _ (by simp)]; exact h.2.2.1, h.2.2.2.1, fun c r hc hr => by rw [s.2 _ (by simp)]; exact h.2.2.2.2.1 c r hc hr, fun q hq => by
  have g := h.2.2.2.2.2 q hq
  exact ⟨⟨by rw [s.2 _ (by simp)]; exact g.1.1, by rw [s.2 _ (by simp)]; exact g.1.2.1, fun r c hr hc => by rw [s.2 _ (by simp)]; exact g.1.2.2 r c hr hc⟩, g.2.1, by rw [s.2 _ (by simp)]; exact g.2.2.1, by rw [s.2 _ (by simp)]; exact g.2.2.2.1, g.2.2.2.2⟩⟩
theorem BxM.sk {k w : Nat} {y : SY} {t : Int} {P P' : PS} (h : BxM k w y t P) (s : SK [] bxA1 P P') : BxM k w y t P' := by
  refine ⟨by rw [s.2 _ (by simp)]; exact h.1, by rw [s.2 _ (by simp)]; exact h.2.1, fun c r hc hr => by rw [s.2 _ (by simp)]; exact h.2.2.1 c r hc hr, fun q hq => ?_⟩
  have g := h.2.2.2 q hq
  exact ⟨fun r c hr hc => by rw [s.2 _ (by simp)]; exact g.1 r c hr hc, by rw [s.2 _ (by simp)]; exact g.2.1, by rw [s.2 _ (by simp)]; exact g.2.2⟩
theorem IX.sk {f : Nat → Int} {X : BXt} {P P' P6 : PS} (h : IX f X P P6) (s : SK [] bxA1 P P') : IX f X P' P6 := fun k hk => ⟨by rw [s.2 _ (by simp)]; exact (h k hk).1, fun g => by
  obtain ⟨y, t, h1, h2, h3⟩ := (h k hk).2 g
  exact ⟨y, t, h1, h2.sk s, h3⟩⟩
theorem RlM.sk {rs : List RLt} {u : Nat} {P P' : PS} (h : RlM rs u P) (s : SK rlI1 rlA1 P P') : RlM rs u P' := ⟨by rw [s.1 _ (by simp)]; exact h.1, by rw [s.1 _ (by simp)]; exact h.2.1, fun i hi => by rw [s.2 _ (by simp), s.2 _ (by simp)]; exact h.2.2.1 i hi, fun r hr => by rw [s.2 _ (by simp)]; exact h.2.2.2.1 r hr, fun r hr h0 => by rw [s.2 _ (by simp)]; exact h.2.2.2.2 r hr h0⟩
theorem TpM.sk {b : Nat → Int} {n : Nat} {P P' : PS} (h : TpM b n P) (s : SK [1] [0] P P') : TpM b n P' := ⟨by rw [s.1 _ (by simp)]; exact h.1, h.2.1, fun i hi => by rw [s.2 _ (by simp)]; exact h.2.2 i hi⟩
/-! the boxes of the class -/
theorem BxC.fj {k j : Nat} {y : SY} {t : Int} {X : BXt} {P P' : PS} (h : BxC k y t X P) (fj : FrJ j P P') (ne : k + 1 ≠ j) : BxC k y t X P' := by
  have o := fj.2 (k + 1) ne
  refine ⟨by rw [o.1]; exact h.1, by rw [o.1]; exact h.2.1, by rw [o.1]; exact h.2.2.1, fun c r hc hr => by rw [o.2.2.1]; exact h.2.2.2.1 c r hc hr, fun q hq => ?_, fun q q' hq hq' i hi hi' => ?_⟩
  · obtain ⟨g1, g2, i, g3, g4⟩ := h.2.2.2.2.1 q hq
    exact ⟨by rw [o.2.2.1]; exact g1, by rw [o.2.2.1]; exact g2, i, by rw [o.2.2.2.2.2]; exact g3, g4⟩
  · rw [o.2.2.2.2.2] at hi hi'
    exact h.2.2.2.2.2 q q' hq hq' i hi hi'
theorem BxC.up {k : Nat} {y : SY} {t : Int} {X X' : BXt} {P : PS} (h : BxC k y t X P) (hx : ∀ i, X.1 i → X'.1 i ∧ X'.2 i = X.2 i) : BxC k y t X' P := by
  refine ⟨h.1, h.2.1, h.2.2.1, h.2.2.2.1, fun q hq => ?_, h.2.2.2.2.2⟩
  obtain ⟨g1, g2, i, g3, g4, g5⟩ := h.2.2.2.2.1 q hq
  exact ⟨g1, g2, i, g3, (hx i g4).1, by rw [(hx i g4).2]; exact g5⟩
theorem IX.fj {f : Nat → Int} {X : BXt} {P0 P6 P6' : PS} (h : IX f X P0 P6) (fj : FrJ 0 P6 P6') : IX f X P0 P6' := fun k hk => by
  have o := (fj.2 (k + 1) (by omega)).1 7
  rw [o]
  refine ⟨(h k hk).1, fun g => ?_⟩
  obtain ⟨y, t, h1, h2, h3⟩ := (h k hk).2 g
  exact ⟨y, t, h1, h2, h3.fj fj (by omega)⟩
theorem StC.fj {j : Nat} {y : SY} {z t : Int} {P3 P6 P6' : PS} (h : StC 0 y z t P3 P6) (fj : FrJ j P6 P6') (ne : 0 ≠ j) : StC 0 y z t P3 P6' := by
  have o := fj.2 0 ne
  refine ⟨by rw [o.1]; exact h.1, by rw [o.1]; exact h.2.1, by rw [o.1]; exact h.2.2.1, fun c r hc hr => by rw [o.2.2.1]; exact h.2.2.2.1 c r hc hr, fun q hq => ?_⟩
  obtain ⟨g1, g2, i, g3, g4⟩ := h.2.2.2.2 q hq
  exact ⟨by rw [o.2.2.1]; exact g1, by rw [o.2.2.1]; exact g2, i, by rw [o.2.2.2.2.2]; exact g3, g4⟩
theorem two_feed {v1 v2 v3 v4 v5 : Int32} {hs : List PS} (h : INV hs) : Two 124 171 false 0 0 [vI v1, vI v2, vI v3, vI v4, vI v5] hs := by
  obtain ⟨P0, P1, P2, P3, P4, P5, P6, P7, P8, P9, P10, P11, P12, b, n, e, l, f, kb, ks, y, t, X, rs, u, kl, kls, rfl, hT, hB, hU, hS, hX, hR, hO⟩ := h
  refine C_feed hT.2.1 (fun P1' c f1 t1 => M_feed hT.1 (fun P0' _ fr t0 => ⟨rfl, ⟨_, rfl⟩, ?_⟩) (fun c' => absurd c c')) (fun c => M_feed hT.1 (fun P0' c' _ _ => absurd c' c) (fun _ => ⟨rfl, ⟨_, rfl⟩, mkI hT hB hS hX hR hO SM.rf hU hS.st hR.2.1 id12⟩))
  exact ⟨P0', P1', P2, P3, P4, P5, P6, P7, P8, P9, P10, P11, P12, _, _, e, l, f, kb, ks, y, t, X, rs, u, kl, kls, rfl, ⟨t0, t1, ⟨by rw [fr.2.1 _ (by simp)]; exact hT.2.2.1.1, by rw [fr.2.1 _ (by simp)]; exact hT.2.2.1.2⟩, ⟨by rw [f1.2.1 _ (by simp)]; exact hT.2.2.2.1.1, by rw [f1.2.1 _ (by simp)]; exact hT.2.2.2.1.2⟩, fun i hi => by rw [f1.2.2.2.2 _ _ (by simp)]; exact hT.2.2.2.2 i hi⟩, ⟨hB.1.sk (fr.sk (by decide) (by decide)), hB.2⟩, hU, ⟨hS.1.sk (fr.sk (by decide) (by decide)), hS.2⟩, hX.sk (fr.sk (by decide) (by decide)), ⟨hR.1.sk (fr.sk (by decide) (by decide)), hR.2⟩, hO⟩
theorem two_end {v1 : Int32} {hs : List PS} (h : INV hs) : Two 125 173 false 0 0 [vI v1] hs := by
  obtain ⟨a, rfl, ha⟩ := iI_of v1
  obtain ⟨P0, P1, P2, P3, P4, P5, P6, P7, P8, P9, P10, P11, P12, b, n, e, l, f, kb, ks, y, t, X, rs, u, kl, kls, rfl, hT, hB, hU, hS, hX, hR, hO⟩ := h
  refine C_end ha.1 ha.2 hT.2.1 (fun m P1' c hm f1 t1 => M_end ha.1 ha.2 hT.1 (fun m' P0' c' _ fr t0 => ?_) (fun c' => by rw [c] at c'; cases c')) (fun c => M_end ha.1 ha.2 hT.1 (fun m' P0' c' _ _ _ => by rw [c] at c'; cases c') (fun _ => ⟨rfl, ⟨_, rfl⟩, mkI hT hB hS hX hR hO SM.rf hU hS.st hR.2.1 id12⟩))
  have em : m' = m := by rw [c] at c'; exact (Option.some.inj c').symm
  subst em
  exact ⟨rfl, ⟨_, rfl⟩, P0', P1', P2, P3, P4, P5, P6, P7, P8, P9, P10, P11, P12, _, _, e, l, f, kb, ks, y, t, X, rs, u, kl, kls, rfl, ⟨t0, t1, ⟨by rw [fr.2.1 _ (by simp)]; exact hT.2.2.1.1, by rw [fr.2.1 _ (by simp)]; exact hT.2.2.1.2⟩, ⟨by rw [f1.2.1 _ (by simp)]; exact hT.2.2.2.1.1, by rw [f1.2.1 _ (by simp)]; exact hT.2.2.2.1.2⟩, fun i hi => by rw [f1.2.2.2.2 _ _ (by simp)]; exact hT.2.2.2.2 i hi⟩, ⟨hB.1.sk (fr.sk (by decide) (by decide)), hB.2⟩, hU, ⟨hS.1.sk (fr.sk (by decide) (by decide)), hS.2⟩, hX.sk (fr.sk (by decide) (by decide)), ⟨hR.1.sk (fr.sk (by decide) (by decide)), hR.2⟩, hO⟩
theorem two_later {v1 : Int32} {hs : List PS} (h : INV hs) : Two 131 197 false 0 0 [vI v1] hs := by
  obtain ⟨a, rfl, ha⟩ := iI_of v1
  obtain ⟨P0, P1, P2, P3, P4, P5, P6, P7, P8, P9, P10, P11, P12, b, n, e, l, f, kb, ks, y, t, X, rs, u, kl, kls, rfl, hT, hB, hU, hS, hX, hR, hO⟩ := h
  have ht := hS.2.2.1.2.1
  refine C_later ha.1 ha.2 ht.1 ht.2 hS.2.1.2.1 (fun t' c h0 h1 => M_later ha.1 ha.2 ht.1 ht.2 hS.1.2.2.1 (fun t'' c' _ _ => ?_) (fun c' => by rw [c] at c'; cases c')) (fun c => M_later ha.1 ha.2 ht.1 ht.2 hS.1.2.2.1 (fun t' c' _ _ => by rw [c] at c'; cases c') (fun _ => ⟨rfl, ⟨_, rfl⟩, mkI hT hB hS hX hR hO SM.rf hU hS.st hR.2.1 id12⟩))
  have em : t'' = t' := by rw [c] at c'; exact (Option.some.inj c').symm
  subst em
  have fr : Fr [29] [] [] [] P0 (sI P0 0 29 (iI t'')) := Fr.rf.sI (by simp)
  have fj : FrJ 0 P6 (sI P6 0 5 (iI t'')) := FrJ.rf.sI
  refine ⟨rfl, ⟨_, rfl⟩, sI P0 0 29 (iI t''), P1, P2, P3, P4, P5, sI P6 0 5 (iI t''), P7, P8, P9, P10, P11, P12, b, n, e, l, f, kb, ks, y, t'', X, rs, u, kl, kls, rfl, ⟨hT.1.sk (fr.sk (by decide) (by decide)), hT.2.1, ⟨hT.2.2.1.1, hT.2.2.1.2⟩, hT.2.2.2⟩, ⟨hB.1.sk (fr.sk (by decide) (by decide)), hB.2⟩, hU, ⟨?_, ?_, ?_, hS.2.2.2.1, hS.2.2.2.2.1, hS.2.2.2.2.2⟩, (hX.sk (fr.sk (by decide) (by decide))).fj fj, ⟨hR.1.sk (fr.sk (by decide) (by decide)), hR.2⟩, hO⟩
  · exact ⟨hS.1.1, hS.1.2.1, rfl, ⟨h0, h1⟩, hS.1.2.2.2.2.1, hS.1.2.2.2.2.2⟩
  · exact ⟨hS.2.1.1, rfl, hS.2.1.2.2.1, hS.2.1.2.2.2.1, hS.2.1.2.2.2.2⟩
  · exact ⟨hS.2.2.1.1, ⟨h0, h1⟩, hS.2.2.1.2.2⟩
theorem two_untell {v1 : Int32} {hs : List PS} (h : INV hs) : Two 130 196 false 0 0 [vI v1] hs := by
  obtain ⟨a, rfl, ha⟩ := iI_of v1
  obtain ⟨P0, P1, P2, P3, P4, P5, P6, P7, P8, P9, P10, P11, P12, b, n, e, l, f, kb, ks, y, t, X, rs, u, kl, kls, rfl, hT, hB, hU, hS, hX, hR, hO⟩ := h
  have hY := hS.2.2.1
  refine C_untell (u := y.2.2.2.1) ha.1 ha.2 hS.2.1.1 hY.1 hS.2.1.2.1 (fun i hi => ⟨(hS.2.1.2.2.2.2 i hi).2.1, (hY.2.2 i hi).2.2⟩) (fun c => M_untell (u := y.2.2.2.1) ha.1 ha.2 hS.1.1 hY.1 hS.1.2.2.1 (fun i hi => ⟨(hS.1.2.2.2.2.2 i hi).2.2.2.1, (hY.2.2 i hi).2.2⟩) (fun _ => ?_) (fun c' => absurd c c')) (fun c => M_untell (u := y.2.2.2.1) ha.1 ha.2 hS.1.1 hY.1 hS.1.2.2.1 (fun i hi => ⟨(hS.1.2.2.2.2.2 i hi).2.2.2.1, (hY.2.2 i hi).2.2⟩) (fun c' => absurd c' c) (fun _ => ⟨rfl, ⟨_, rfl⟩, mkI hT hB hS hX hR hO SM.rf hU hS.st hR.2.1 id12⟩))
  have fr : Fr [] [] [26] [] P0 (sA P0 0 26 a.toNat (iI t)) := Fr.rf.sA (by simp)
  have fj : FrJ 0 P6 (sA P6 0 2 a.toNat (iI t)) := FrJ.rf.sA
  have uM : ∀ q, q < y.1 → gA (sA P0 0 26 a.toNat (iI t)) 0 26 q = iI (upZ y.2.2.2.1 a.toNat t q) := fun q hq => by
    rw [gA_sA, if_pos rfl, if_pos rfl]; unfold upZ
    by_cases c : q = a.toNat
    · rw [if_pos c, if_pos c]
    · rw [if_neg c, if_neg c]; exact (hS.1.2.2.2.2.2 q hq).2.2.2.1
  have uC : ∀ q, q < y.1 → gA (sA P6 0 2 a.toNat (iI t)) 0 2 q = iI (upZ y.2.2.2.1 a.toNat t q) := fun q hq => by
    rw [gA_sA, if_pos rfl, if_pos rfl]; unfold upZ
    by_cases c : q = a.toNat
    · rw [if_pos c, if_pos c]
    · rw [if_neg c, if_neg c]; exact (hS.2.1.2.2.2.2 q hq).2.1
  have uB : ∀ q, q < y.1 → -1 ≤ upZ y.2.2.2.1 a.toNat t q ∧ upZ y.2.2.2.1 a.toNat t q ≤ 100000 := fun q hq => by
    unfold upZ
    have := hY.2.1
    have := (hY.2.2 q hq).2.2
    split <;> omega
  refine ⟨rfl, ⟨_, rfl⟩, sA P0 0 26 a.toNat (iI t), P1, P2, P3, P4, P5, sA P6 0 2 a.toNat (iI t), P7, P8, P9, P10, P11, P12, b, n, e, l, f, kb, ks, (y.1, y.2.1, y.2.2.1, upZ y.2.2.2.1 a.toNat t, y.2.2.2.2), t, X, rs, u, kl, kls, rfl, ⟨hT.1.sk (fr.sk (by decide) (by decide)), hT.2.1, ⟨hT.2.2.1.1, hT.2.2.1.2⟩, hT.2.2.2⟩, ⟨hB.1.sk (fr.sk (by decide) (by decide)), hB.2⟩, hU, ⟨?_, ?_, ?_, hS.2.2.2.1, hS.2.2.2.2.1, hS.2.2.2.2.2⟩, (hX.sk (fr.sk (by decide) (by decide))).fj fj, ⟨hR.1.sk (fr.sk (by decide) (by decide)), hR.2⟩, hO⟩
  · refine ⟨hS.1.1, hS.1.2.1, hS.1.2.2.1, hS.1.2.2.2.1, hS.1.2.2.2.2.1, fun q hq => ?_⟩
    have g := hS.1.2.2.2.2.2 q hq
    exact ⟨g.1, g.2.1, g.2.2.1, uM q hq, g.2.2.2.2.1, uB q hq⟩
  · refine ⟨hS.2.1.1, hS.2.1.2.1, hS.2.1.2.2.1, hS.2.1.2.2.2.1, fun q hq => ?_⟩
    have g := hS.2.1.2.2.2.2 q hq
    exact ⟨g.1, uC q hq, g.2.2⟩
  · refine ⟨hY.1, hY.2.1, fun q hq => ?_⟩
    have g := hY.2.2 q hq
    exact ⟨g.1, g.2.1, uB q hq⟩
theorem two_speckless {v1 v2 : Int32} {v : Bool} {hs : List PS} (h : INV hs) : Two 132 200 false 0 0 [vI v1, vI v2, vI (oI v)] hs := by
  obtain ⟨a, rfl, ha⟩ := iI_of v1
  obtain ⟨c, rfl, hc⟩ := iI_of v2
  obtain ⟨P0, P1, P2, P3, P4, P5, P6, P7, P8, P9, P10, P11, P12, b, n, e, l, f, kb, ks, y, t, X, rs, u, kl, kls, rfl, hT, hB, hU, hS, hX, hR, hO⟩ := h
  have hY := hS.2.2.1
  have hF := hB.2.1
  refine C_speckless (w := f 0) ha hc hB.2.2.2.2.1 (hB.2.2.1.2.1 0 (by omega)) (by have := hF.1; omega) hS.2.1.2.2.2.1 hS.2.1.2.2.1 (fun P6' c1 g1 g2 fO => M_speckless (w := f 0) ha hc (hB.1.2 0 (by omega)) (by have := hF.1; omega) hS.1.2.2.2.2.1 (fun P0' _ g0 fr => ?_) (fun c' => absurd c1 c')) (fun c1 => M_speckless (w := f 0) ha hc (hB.1.2 0 (by omega)) (by have := hF.1; omega) hS.1.2.2.2.2.1 (fun P0' c' _ _ => absurd c' c1) (fun _ => ⟨rfl, ⟨_, rfl⟩, mkI hT hB hS hX hR hO SM.rf hU hS.st hR.2.1 id12⟩))
  refine ⟨rfl, ⟨_, rfl⟩, P0', P1, P2, P3, P4, P5, P6', P7, P8, P9, P10, P11, P12, b, n, e, l, f, kb, ks, (y.1, y.2.1, y.2.2.1, y.2.2.2.1, upF y.2.2.2.2 a.toNat c.toNat v), t, X, rs, u, kl, kls, rfl, ⟨hT.1.sk (fr.sk (by decide) (by decide)), hT.2.1, ⟨by rw [fr.2.1 _ (by simp)]; exact hT.2.2.1.1, by rw [fr.2.1 _ (by simp)]; exact hT.2.2.1.2⟩, hT.2.2.2⟩, ⟨hB.1.sk (fr.sk (by decide) (by decide)), hB.2⟩, hU, ⟨?_, ?_, hY, ?_, ?_, hS.2.2.2.2.2⟩, (hX.sk (fr.sk (by decide) (by decide))).fj fO.1, ⟨hR.1.sk (fr.sk (by decide) (by decide)), hR.2⟩, hO⟩
  · refine ⟨by rw [fr.2.1 _ (by simp)]; exact hS.1.1, hS.1.2.1, by rw [fr.2.1 _ (by simp)]; exact hS.1.2.2.1, hS.1.2.2.2.1, g0, fun q hq => ?_⟩
    have g := hS.1.2.2.2.2.2 q hq
    exact ⟨⟨by rw [fr.2.2.2.1 _ _ (by simp)]; exact g.1.1, by rw [fr.2.2.2.1 _ _ (by simp)]; exact g.1.2.1, fun r c hr hc => by rw [fr.2.2.2.1 _ _ (by simp)]; exact g.1.2.2 r c hr hc⟩, g.2.1, by rw [fr.2.2.2.1 _ _ (by simp)]; exact g.2.2.1, by rw [fr.2.2.2.1 _ _ (by simp)]; exact g.2.2.2.1, g.2.2.2.2⟩
  · refine ⟨by rw [fO.2.1 _ (by simp)]; exact hS.2.1.1, by rw [fO.2.1 _ (by simp)]; exact hS.2.1.2.1, g2, g1, fun q hq => ?_⟩
    obtain ⟨k1, k2, i, k3, k4⟩ := hS.2.1.2.2.2.2 q hq
    exact ⟨by rw [fO.2.2.2.1 _ _ (by simp)]; exact k1, by rw [fO.2.2.2.1 _ _ (by simp)]; exact k2, i, by rw [fO.2.2.2.2.2.2]; exact k3, k4⟩
  · exact ⟨fun q hq i hi => by rw [fO.2.2.2.2.2.2] at hi; exact hS.2.2.2.1.1 q hq i hi, hS.2.2.2.1.2⟩
  · intro q q' hq hq' i hi hi'
    rw [fO.2.2.2.2.2.2] at hi hi'
    exact hS.2.2.2.2.1 q q' hq hq' i hi hi'
