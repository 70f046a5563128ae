/-! ===== SHIFT: the point that bears a star's name ===== -/
/-- the first from q on, of m, where g is s -/
def fsN (g : Nat → Nat) (s : Nat) : Nat → Nat → Option Nat
  | 0, _ => none
  | m + 1, q => if g q = s then some q else fsN g s m (q + 1)
abbrev ssI : List Nat := 66 :: 67 :: snI
theorem M_seekStar {d w s : Nat} {y : SY} {z t a k : Int} {l : List SR} {f : Nat → Int} {x1 x2 x3 : Int32} {P : PS} {R : List PS} {Q : Option AV → List PS → Prop} (e1 : x1 = iI a) (e2 : x2 = iI (s : Nat)) (e3 : x3 = iI k) (ha : -2147483648 ≤ a ∧ a < 2147483648) (hk : -2147483648 ≤ k ∧ k < 2147483648) (hs : s < l.length) (hS : StM y w z t P) (hB : BoM l f P) (hF : FOK f) (hy : ∀ q P', hasN y z a 0 k l f → fsN (nmAt y z k l f a.toNat 0) s 6 0 = some q → q < nP y z k a.toNat → gI P' 0 66 = iI (dt (y.2.1 a.toNat) z (ptD y z k a.toNat q)).1 → gI P' 0 67 = iI (dt (y.2.1 a.toNat) z (ptD y z k a.toNat q)).2.1 → Fr ssI [] snA [] P P' → Q (some (vI 1)) (P' :: R)) (hn : ∀ P', ¬ (hasN y z a 0 k l f ∧ fsN (nmAt y z k l f a.toNat 0) s 6 0 ≠ none) → Fr ssI [] snA [] P P' → Q (some (vI 0)) (P' :: R)) : Tri 253 (d + 6) [vR 0 0 0, vI x1, vI x2, vI x3] (P :: R) Q := by
  subst e1 e2 e3
  refine enX12_seekStar ?_
  unfold fX12_seekStar_0
  refine M_hasNaming (i := 0) rfl rfl rfl ha (by omega) hk hS hB hF (fun B hN nB fB => ?_) (fun B hN fB => ?_)
  · dsimp only [hx1, rI]
    refine ⟨fun _ => ?_, fun g => absurd g (by decide)⟩
    have hl := nB.1.2.2.2.1.1.2.1
    have A6 : aP y z k a.toNat ≤ 6 ∧ aP y z k a.toNat ≤ nP y z k a.toNat := m6_le (nP y z k a.toNat)
    have n12 := nP_le y z k a.toNat
    have h0 : 0 < (nmP y z k l f a.toNat).1.length := by have := hN.2.2; omega
    have fB' : Fr ssI [] snA [] P B := fB.mono (by simp) (by simp) (by simp) (by simp)
    have key : ∀ (m q : Nat), q + m = 6 → fsN (nmAt y z k l f a.toNat 0) s m q = fsN (nmAt y z k l f a.toNat 0) s 6 0 → cX12_seekStar_15 (0, 0, 0, 0) (d + 5) (iI (s : Nat)) (iI (q : Nat)) B R Q := by
      intro m
      induction m with
      | zero =>
        intro q hq hf
        refine gX12_seekStar_15 ?_
        unfold fX12_seekStar_15
        rw [show (6 : Int32) = iI 6 from rfl, iI_le (by omega) (by omega) (by omega) (by omega)]
        exact ⟨fun _ => ⟨Or.inl rfl, hn B (fun g => g.2 hf.symm) fB'⟩, fun c => absurd (by omega) c⟩
      | succ m ih =>
        intro q hq hf
        have nt := nmAt_lt (y := y) (z := z) (k := k) (l := l) (f := f) (p := a.toNat) (i := 0) (q := q) h0
        have nq : gA B 0 47 q = iI (nmAt y z k l f a.toNat 0 q : Nat) := by
          have := nB.at (i := 0) (q := q) h0 (by omega)
          rw [show 6 * 0 + q = q by omega] at this; exact this
        have eu : fsN (nmAt y z k l f a.toNat 0) s (m + 1) q = if nmAt y z k l f a.toNat 0 q = s then some q else fsN (nmAt y z k l f a.toNat 0) s m (q + 1) := rfl
        refine gX12_seekStar_15 ?_
        unfold fX12_seekStar_15
        rw [show (6 : Int32) = iI 6 from rfl, iI_le (by omega) (by omega) (by omega) (by omega), iI_cl (a := (q : Nat)) (by omega) (by omega), Int.toNat_natCast, nq, iI_eq (by omega) (by omega) (by omega) (by omega), show iI (q : Nat) + 1 = iI ((q + 1 : Nat)) from iI_add (q : Nat) 1]
        refine ⟨fun c => absurd c (by omega), fun _ => ⟨vpk (by omega) (by omega), fun c => ?_, fun c => ih (q + 1) (by omega) ?_⟩⟩
        · have c' : nmAt y z k l f a.toNat 0 q = s := by omega
          have qA : q < aP y z k a.toNat := by
            by_cases g : q < aP y z k a.toNat
            · exact g
            · have : nmAt y z k l f a.toNat 0 q = 32 := by unfold nmAt; rw [if_neg g]
              omega
          obtain ⟨e, o, he, ho, g1, g2, g3⟩ := nB.1.1.at (show q < nP y z k a.toNat by omega)
          have g1' : gA B 0 42 q = iI (e : Nat) := g1
          have g2' : gA B 0 35 e = iI (o : Nat) := g2
          rw [g1', iI_cl (a := (e : Nat)) (by omega) (by omega), Int.toNat_natCast, g2', iI_cl (a := (o : Nat)) (by omega) (by omega), Int.toNat_natCast]
          have vq : vp_in (iI (q : Nat)) 12 := vpk (by omega) (by omega)
          have ve : vp_in (iI (e : Nat)) 140 := vpk he (by omega)
          have vo : vp_in (iI (o : Nat)) 140 := vpk ho (by omega)
          refine ⟨vq, ve, vo, vq, ve, vo, Or.inr rfl, hy q _ hN ?_ (by omega) ?_ ?_ ((fB'.sI (by simp)).sI (by simp))⟩
          · rw [← hf, eu, if_pos c']
          · show gA B 0 31 o = _
            exact g3.1
          · show gA B 0 32 o = _
            exact g3.2.1
        · rw [← hf, eu, if_neg (by omega)]
    exact key 6 0 (by omega) rfl
  · dsimp only [hx1, rI]
    exact ⟨fun g => absurd rfl g, fun _ => ⟨Or.inl rfl, hn B (fun g => hN g.1) (fB.mono (by simp) (by simp) (by simp) (by simp))⟩⟩
/-- the dot of the point that bears a name -/
theorem C_dotNamed {d i s A n : Nat} {p : Nat → Bool} {F : List (Nat → Nat)} {l : List SR} {P0 P1 P2 P3 : PS} {R : List PS} {Q : Option AV → List PS → Prop} (hs : s < l.length) (hl : l.length ≤ 32) (hn : n ≤ 12) (hx : ∀ e, e < 32 → bz (gI P3 i 10) e = (decide (e < n) && p e)) (hA : A ≤ cnt p n) (hv : ∀ v ∈ F, VoK l v A) (hD : FdC i A F P3) (h : Q (some (vI (iI (if F.length = 0 then -1 else (fsN (fun q => if q < A then (F.getD 0 (fun _ => 32)) q else 32) s 6 0).elim (-1 : Int) (fun q => ((nth p q n : Nat) : Int)))))) (P0 :: P1 :: P2 :: P3 :: R)) : Tri 46 (d + 2) [vR 3 i 0, vI (iI (s : Nat))] (P0 :: P1 :: P2 :: P3 :: R) Q := by
  have h200 := hD.2.1
  generalize hG : (fun q => if q < A then (F.getD 0 (fun _ => 32)) q else 32) = G at *
  have hG' : ∀ q, (if q < A then (F.getD 0 (fun _ => 32)) q else 32) = G q := fun q => by rw [← hG]
  have key : ∀ (m q : Nat), q + m = 6 → (F.length ≠ 0 → fsN G s m q = fsN G s 6 0) → cX3_dotNamed_2 (0, 0, 0, 0) (d + 1) i (iI (s : Nat)) (iI (q : Nat)) P0 P1 P2 P3 R Q := by
    intro m
    induction m with
    | zero =>
      intro q hq hf
      refine gX3_dotNamed_2 ?_
      unfold fX3_dotNamed_2
      rw [show (6 : Int32) = iI 6 from rfl, iI_le (by omega) (by omega) (by omega) (by omega)]
      refine ⟨fun _ => ?_, fun c => absurd (by omega) c⟩
      by_cases c0 : F.length = 0
      · rw [if_pos c0] at h; exact h
      · rw [if_neg c0, ← hf c0] at h; exact h
    | succ m ih =>
      intro q hq hf
      have eu : fsN G s (m + 1) q = if G q = s then some q else fsN G s m (q + 1) := rfl
      refine gX3_dotNamed_2 ?_
      unfold fX3_dotNamed_2
      rw [show (6 : Int32) = iI 6 from rfl, iI_le (by omega) (by omega) (by omega) (by omega), show iI (q : Nat) + 1 = iI ((q + 1 : Nat)) from iI_add (q : Nat) 1]
      refine ⟨fun c => absurd c (by omega), fun _ => C_starOf (i := 0) (q := (q : Nat)) (l := l) rfl rfl (by omega) (by omega) hl hv hD ?_⟩
      dsimp only [hx4, rI]
      rw [Int.toNat_natCast, show (0 : Int).toNat = 0 from rfl, hG']
      by_cases c0 : F.length = 0
      · rw [if_neg (fun g => by have := g.1.2; omega)]
        refine ⟨fun _ => ih (q + 1) (by omega) (fun g => absurd c0 g), fun g => ?_⟩
        rw [iI_eq (by omega) (by omega) (by omega) (by omega)] at g; omega
      · have gq : G q = 32 ∨ G q < l.length := by
          rw [← hG']
          split
          · rename_i c
            refine hv _ ?_ q c
            rw [List.getD_eq_getElem?_getD, List.getElem?_eq_getElem (by omega)]
            exact List.getElem_mem (by omega)
          · exact Or.inl rfl
        have go : G q ≠ s → cX3_dotNamed_2 (0, 0, 0, 0) (d + 1) i (iI (s : Nat)) (iI ((q + 1 : Nat))) P0 P1 P2 P3 R Q := fun g => ih (q + 1) (by omega) (fun g0 => by rw [← hf g0, eu, if_neg g])
        by_cases c32 : G q = 32
        · rw [if_neg (fun g => g.2.2 c32)]
          refine ⟨fun _ => go (by omega), fun g => ?_⟩
          rw [iI_eq (by omega) (by omega) (by omega) (by omega)] at g; omega
        · rw [if_pos ⟨⟨by omega, by omega⟩, by omega, c32⟩, iI_eq (by omega) (by omega) (by omega) (by omega)]
          refine ⟨fun g => go (by omega), fun g => C_nthBit rfl (by omega) hn hx ?_⟩
          dsimp only [hx4, rI]
          have gs : G q = s := by omega
          have qA : q < A := by
            by_cases c : q < A
            · exact c
            · have := hG' q; rw [if_neg c] at this; omega
          rw [if_pos ⟨by omega, by omega⟩, Int.toNat_natCast]
          rw [if_neg c0, ← hf c0, eu, if_pos gs] at h
          exact h
  refine enX3_dotNamed ?_
  unfold fX3_dotNamed_0
  exact key 6 0 (by omega) (fun _ => rfl)
