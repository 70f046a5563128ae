/-! ===== picture: both together ===== -/
abbrev samO (j : Nat) (P P' : PS) : Prop := (∀ a, gI P' j a = gI P j a) ∧ (∀ a, gL P' j a = gL P j a) ∧ (∀ a i, gA P' j a i = gA P j a i) ∧ (∀ a i, gB P' j a i = gB P j a i)
theorem PiC.sam {j : Nat} {L : Nat → Int} {z : Int} {P P' : PS} (h : PiC j L z P) (o : samO j P P') : PiC j L z P' := by
  obtain ⟨o1, o2, o3, o4⟩ := o
  refine ⟨by rw [o1]; exact h.1, fun i hi => ?_, fun i hi => by rw [o1]; exact h.2.2.1 i hi, fun r c hr hc => by rw [o3]; exact h.2.2.2.1 r c hr hc, by rw [o1]; exact h.2.2.2.2⟩
  rw [o3, o3, o3, o3]; exact h.2.1 i hi
theorem NcC.sam {j : Nat} {X Y : Nat → Int} {l : List SR} {o : Int} {A : Nat} {P P' : PS} (h : NcC j X Y l o A P) (g : samO j P P') : NcC j X Y l o A P' := by
  refine ⟨⟨?_, h.1.2.1, fun e he => ?_⟩, ?_, fun r hr p hp => ?_⟩
  · rw [g.1]; exact h.1.1
  · rw [g.2.2.2]; exact h.1.2.2 e he
  · rw [g.1]; exact h.2.1
  · rw [g.2.2.1]; exact h.2.2 r hr p hp
theorem CaC.sam {j : Nat} {L : Nat → Int} {z : Int} {l : List SR} {f : Nat → Int} {P P' : PS} (h : CaC j L z l f P) (g : samO j P P') : CaC j L z l f P' := by
  rcases h with m | n
  · exact Or.inl (by rw [g.1]; exact m)
  · refine Or.inr ?_
    rw [g.1]
    exact n.sam g
theorem IX.up {f : Nat → Int} {X X' : BXt} {P0 P6 : PS} (h : IX f X P0 P6) (hx : ∀ i, X.1 i → X'.1 i ∧ X'.2 i = X.2 i) : IX f X' P0 P6 := fun k hk => ⟨(h k hk).1, fun g => by
  obtain ⟨y, t, h1, h2, h3⟩ := (h k hk).2 g
  exact ⟨y, t, h1, h2, h3.up hx⟩⟩
theorem two_picture {hs : List PS} (h : INV hs) (h4 : 0 < cn hs 6) : Two 127 195 false 8 292 [] hs := by
  refine TriM_wf (fun hwf => ?_)
  obtain ⟨P0, P1, P2, P3, P4, P5, P6, P7, P8, P9, P10, P11, P12, b, n, e, l, f, kb, ks, y, t, X, rs, u, kl, kls, rfl, hT, hB, hU, hS, hX, hR, hO⟩ := h
  have hY := hS.2.2.1
  have hF := hB.2.1
  have ew : ((f 0).toNat : Int) = f 0 := Int.toNat_of_nonneg (by have := hF.1; omega)
  have hw : 4 ≤ (f 0).toNat ∧ (f 0).toNat ≤ 16 := by have := hF.1; omega
  have hz : 0 ≤ f 3 ∧ f 3 ≤ 9 := hF.2.2.2.1
  have wfp : ∀ q i, gR P6 0 0 q = some i → i < gN P3 := fun q i hi => wf_pic hwf h4 hi
  have t0 : gA P0 0 12 0 = iI ((f 0).toNat : Nat) := by rw [ew]; exact hB.1.2 0 (by omega)
  have t3 : gA P0 0 12 3 = iI (f 3) := hB.1.2 3 (by omega)
  refine C_picture hT.2.1 hw hB.2.2.2.2.1 (by rw [ew]; exact hB.2.2.1.2.1 0 (by omega)) (hB.2.2.1.2.1 3 (by omega)) hz hS.2.1 hY.1 wfp (fun c => M_picture (w := (f 0).toNat) (c := y.1) (t := t) hT.1 t0 hw hS.1.1 hY.1 hS.1.2.2.1 (fun _ => ⟨rfl, ⟨_, rfl⟩, mkI hT hB hS hX hR hO SM.rf hU hS.st hR.2.1 id12⟩) (fun g => absurd g c) (fun L P' g => absurd g c) (fun e P' g => absurd g c)) (fun c1 c2 P1' f1 a1 a2 a3 => M_picture (w := (f 0).toNat) (c := y.1) (t := t) hT.1 t0 hw hS.1.1 hY.1 hS.1.2.2.1 (fun g => absurd c1 g) (fun _ _ P0' fr tp => ?_) (fun L P' _ g => absurd c2 (by omega)) (fun e P' _ g => absurd c2 (by omega))) (fun L P1' P3' P6' P9' c1 c2 hp f1 a1 a2 a3 hSt hgR hnf hgn hold fj => M_picture (w := (f 0).toNat) (c := y.1) (t := t) hT.1 t0 hw hS.1.1 hY.1 hS.1.2.2.1 (fun g => absurd c1 g) (fun _ g => absurd c2 (by omega)) (fun L' P0' _ _ hp' fr tp m1 m2 m3 m4 m5 m6 m7 => ?_) (fun e' P' _ _ hp' => by rw [hp] at hp'; cases hp')) (fun e1 P1' P9' c1 c2 hp f1 fa a3 => M_picture (w := (f 0).toNat) (c := y.1) (t := t) hT.1 t0 hw hS.1.1 hY.1 hS.1.2.2.1 (fun g => absurd c1 g) (fun _ g => absurd c2 (by omega)) (fun L' P' _ _ hp' => by rw [hp] at hp'; cases hp') (fun e' P0' _ _ hp' fm fr tp => ?_))
  · exact ⟨rfl, ⟨_, rfl⟩, P0', P1', P2, P3, P4, P5, P6, P7, P8, P9, P10, P11, P12, b, 0, e, l, f, kb, ks, y, t, X, rs, u, kl, kls, rfl, ⟨Tp0 tp, Tc0 a3, ⟨by rw [fr.2.1 _ (by simp)]; exact hT.2.2.1.1, by rw [fr.2.1 _ (by simp)]; exact hT.2.2.1.2⟩, ⟨by rw [a1]; exact hT.2.2.2.1.1, by rw [a2]; exact hT.2.2.2.1.2⟩, fun i hi => by rw [f1.2.2.2.2 _ _ (by simp)]; exact hT.2.2.2.2 i hi⟩, ⟨hB.1.sk (fr.sk (by decide) (by decide)), hB.2⟩, hU, ⟨hS.1.sk (fr.sk (by decide) (by decide)), hS.2⟩, hX.sk (fr.sk (by decide) (by decide)), ⟨hR.1.sk (fr.sk (by decide) (by decide)), hR.2⟩, hO⟩
  · have eL : L' = L := by rw [hp] at hp'; exact (Except.ok.inj hp').symm
    subst eL
    have hL := picS_ok hw.2 n 0 0 0 (fun _ => 0) L' (by omega) (by omega) (fun i => ⟨Int.le_refl 0, by show (0 : Int) ≤ 9; omega⟩) (fun i _ => rfl) hp
    have lk : LtK y.1 (f 0).toNat (f 3) L' := ⟨c2, hw, hz, hL.1, hL.2⟩
    have un : ∀ i, X.1 i → X.1 i ∧ (if i = gN P3 then L' else X.2 i) = X.2 i := fun i hi => ⟨hi, by have := hS.2.2.2.2.2 i hi; rw [if_neg (by omega)]⟩
    refine ⟨rfl, ⟨_, rfl⟩, P0', P1', P2, P3', P4, P5, P6', P7, P8, P9', P10, P11, P12, b, 0, ((0 : Int), (-1 : Int)), l, f, kb, ks, addY y L' t, t, (X.1, fun i => if i = gN P3 then L' else X.2 i), rs, u, kl, kls, rfl, ⟨Tp0 tp, Tc0 a3, ⟨m1, m2⟩, ⟨a1, a2⟩, fun i hi => by rw [f1.2.2.2.2 _ _ (by simp)]; exact hT.2.2.2.2 i hi⟩, ⟨hB.1.sk (fr.sk (by decide) (by decide)), hB.2⟩, hU, ⟨?_, hSt, ?_, ⟨?_, ?_⟩, ?_, ?_⟩, ((hX.sk (fr.sk (by decide) (by decide))).fj fj).up un, ⟨hR.1.sk (fr.sk (by decide) (by decide)), hR.2⟩, hO⟩
    · refine ⟨m3, by show y.1 + 1 ≤ 12; omega, by rw [fr.2.1 _ (by simp)]; exact hS.1.2.2.1, hS.1.2.2.2.1, fun c r hc hr => by rw [fr.2.2.2.1 _ _ (by simp)]; exact hS.1.2.2.2.2.1 c r hc hr, fun q hq => ?_⟩
      have hq' : q < y.1 + 1 := hq
      by_cases cq : q = y.1
      · subst cq
        refine ⟨⟨by rw [fr.2.2.2.1 _ _ (by simp)]; exact t0, by rw [fr.2.2.2.1 _ _ (by simp)]; exact t3, fun r c hr hc => ?_⟩, ?_, ?_, ?_, ?_, ?_⟩
        · rw [m7 r c hr hc]
          show _ = iI ((if y.1 = y.1 then L' else y.2.1 y.1) (16 * r + c))
          rw [if_pos rfl]
        · show LtK y.1 _ _ (if y.1 = y.1 then L' else y.2.1 y.1)
          rw [if_pos rfl]; exact lk
        · rw [m4, if_pos rfl]; show _ = iI (upZ y.2.2.1 y.1 t y.1); unfold upZ; rw [if_pos rfl]
        · rw [m5, if_pos rfl]; show _ = iI (upZ y.2.2.2.1 y.1 (-1) y.1); unfold upZ; rw [if_pos rfl]
        · show 0 ≤ upZ y.2.2.1 y.1 t y.1 ∧ upZ y.2.2.1 y.1 t y.1 ≤ 100000
          unfold upZ; rw [if_pos rfl]; exact hY.2.1
        · show -1 ≤ upZ y.2.2.2.1 y.1 (-1) y.1 ∧ upZ y.2.2.2.1 y.1 (-1) y.1 ≤ 100000
          unfold upZ; rw [if_pos rfl]; omega
      · have g := hS.1.2.2.2.2.2 q (by omega)
        refine ⟨⟨by rw [fr.2.2.2.1 _ _ (by simp)]; exact t0, by rw [fr.2.2.2.1 _ _ (by simp)]; exact t3, fun r c hr hc => ?_⟩, ?_, ?_, ?_, ?_, ?_⟩
        · rw [m6 _ (by omega)]
          show _ = iI ((if q = y.1 then L' else y.2.1 q) (16 * r + c))
          rw [if_neg cq]; exact g.1.2.2 r c hr hc
        · show LtK q _ _ (if q = y.1 then L' else y.2.1 q)
          rw [if_neg cq]; exact g.2.1
        · rw [m4, if_neg cq]; show _ = iI (upZ y.2.2.1 y.1 t q); unfold upZ; rw [if_neg cq]; exact g.2.2.1
        · rw [m5, if_neg cq]; show _ = iI (upZ y.2.2.2.1 y.1 (-1) q); unfold upZ; rw [if_neg cq]; exact g.2.2.2.1
        · show 0 ≤ upZ y.2.2.1 y.1 t q ∧ upZ y.2.2.1 y.1 t q ≤ 100000
          unfold upZ; rw [if_neg cq]; exact g.2.2.2.2.1
        · show -1 ≤ upZ y.2.2.2.1 y.1 (-1) q ∧ upZ y.2.2.2.1 y.1 (-1) q ≤ 100000
          unfold upZ; rw [if_neg cq]; exact g.2.2.2.2.2
    · refine ⟨by show y.1 + 1 ≤ 12; omega, hY.2.1, fun q hq => ?_⟩
      have hq' : q < y.1 + 1 := hq
      show LtK q _ _ (if q = y.1 then L' else y.2.1 q) ∧ (0 ≤ upZ y.2.2.1 y.1 t q ∧ upZ y.2.2.1 y.1 t q ≤ 100000) ∧ -1 ≤ upZ y.2.2.2.1 y.1 (-1) q ∧ upZ y.2.2.2.1 y.1 (-1) q ≤ 100000
      unfold upZ
      by_cases cq : q = y.1
      · subst cq
        rw [if_pos rfl, if_pos rfl, if_pos rfl]
        exact ⟨lk, hY.2.1, by omega, by omega⟩
      · rw [if_neg cq, if_neg cq, if_neg cq]; exact hY.2.2 q (by omega)
    · intro q hq i hi
      have hq' : q < y.1 + 1 := hq
      rw [hgR] at hi
      show CaC i (if q = y.1 then L' else y.2.1 q) (f 3) l f P3' ∧ (if q = y.1 then L' else y.2.1 q) = (if i = gN P3 then L' else X.2 i)
      by_cases cq : q = y.1
      · rw [if_pos cq] at hi ⊢
        have ei := Option.some.inj hi
        subst ei
        exact ⟨Or.inl hnf, by rw [if_pos rfl]⟩
      · rw [if_neg cq] at hi ⊢
        have g := hS.2.2.2.1.1 q (by omega) i hi
        have li := wfp q i hi
        exact ⟨g.1.sam (hold i li), by rw [if_neg (by omega)]; exact g.2⟩
    · intro i hi
      have li := hS.2.2.2.2.2 i hi
      have g := hS.2.2.2.1.2 i hi
      show PiC i (if i = gN P3 then L' else X.2 i) (f 3) P3' ∧ CaC i (if i = gN P3 then L' else X.2 i) (f 3) l f P3'
      rw [if_neg (by omega)]
      exact ⟨g.1.sam (hold i li), g.2.sam (hold i li)⟩
    · intro q q' hq hq' i hi hi'
      have h1 : q < y.1 + 1 := hq
      have h2 : q' < y.1 + 1 := hq'
      rw [hgR] at hi hi'
      by_cases c : q = y.1
      · rw [if_pos c] at hi
        by_cases c' : q' = y.1
        · rw [c, c']
        · rw [if_neg c'] at hi'
          have := wfp q' i hi'
          have := Option.some.inj hi
          omega
      · rw [if_neg c] at hi
        by_cases c' : q' = y.1
        · rw [if_pos c'] at hi'
          have := wfp q i hi
          have := Option.some.inj hi'
          omega
        · rw [if_neg c'] at hi'
          exact hS.2.2.2.2.1 q q' (by omega) (by omega) i hi hi'
    · intro i hi
      have := hS.2.2.2.2.2 i hi
      rw [hgn]; omega
  · have ee : e' = e1 := by rw [hp] at hp'; exact (Except.error.inj hp').symm
    subst ee
    exact ⟨rfl, ⟨_, rfl⟩, P0', P1', P2, P3, P4, P5, P6, P7, P8, P9', P10, P11, P12, b, 0, e', l, f, kb, ks, y, t, X, rs, u, kl, kls, rfl, ⟨Tp0 tp, Tc0 a3, ⟨fm.1, fm.2.1⟩, fa, fun i hi => by rw [f1.2.2.2.2 _ _ (by simp)]; exact hT.2.2.2.2 i hi⟩, ⟨hB.1.sk (fr.sk (by decide) (by decide)), hB.2⟩, hU, ⟨hS.1.sk (fr.sk (by decide) (by decide)), hS.2⟩, hX.sk (fr.sk (by decide) (by decide)), ⟨hR.1.sk (fr.sk (by decide) (by decide)), hR.2⟩, hO⟩
