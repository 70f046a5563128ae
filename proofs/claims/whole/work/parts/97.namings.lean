/-! ===== the Model: NAMINGS, NAMED ===== -/
noncomputable def aP (y : SY) (z k : Int) (p : Nat) : Nat := m6 (nP y z k p)
/-- the NAMINGS of a picture, and how many points they name -/
noncomputable def nmP (y : SY) (z k : Int) (l : List SR) (f : Nat → Int) (p : Nat) : List (Nat → Nat) × Nat := nmS (qX y z k f p) (qY y z k f p) l (f 4) (aP y z k p)
abbrev snI : List Nat := [38, 39, 43, 48, 49]
abbrev snA : List Nat := [30, 31, 32, 33, 37, 36, 35, 40, 41, 34, 42, 44, 45, 46, 47]
/-- the NAMINGS are known in the Model -/
def NmM (y : SY) (z k : Int) (p w : Nat) (l : List SR) (f : Nat → Int) (P : PS) : Prop := SkM y z k p w (aP y z k p) l f P ∧ NsM (aP y z k p) (nmP y z k l f p).1 P ∧ gI P 0 49 = iI ((nmP y z k l f p).2 : Nat)
theorem nmg_le (X Y : Nat → Int) (l : List SR) (o : Int) (A g : Nat) : (nmg X Y l o A g).length ≤ 200 := by unfold nmg; rw [List.length_take]; omega
theorem nmF_le (X Y : Nat → Int) (l : List SR) (o : Int) (A : Nat) : ∀ g, (nmF X Y l o A g).1.length ≤ 200 ∧ (nmF X Y l o A g).2 ≤ g ∧ ((nmF X Y l o A g).1.length = 0 → (nmF X Y l o A g).2 = 0)
  | 0 => ⟨Nat.zero_le 200, Nat.le_refl _, fun _ => rfl⟩
  | 1 => ⟨Nat.zero_le 200, Nat.zero_le _, fun _ => rfl⟩
  | 2 => ⟨Nat.zero_le 200, Nat.zero_le _, fun _ => rfl⟩
  | g + 3 => by
    unfold nmF
    split
    · have := nmF_le X Y l o A (g + 2); exact ⟨this.1, by omega, this.2.2⟩
    · rename_i c; exact ⟨nmg_le X Y l o A (g + 3), Nat.le_refl _, fun q => absurd q c⟩
theorem M_sn42 {d p w A : Nat} {y : SY} {z k : Int} {l : List SR} {f : Nat → Int} {PB : PS} {R : List PS} {Q : Option AV → List PS → Prop} (hA : A = aP y z k p) (hSk : SkM y z k p w A l f PB) (h : ∀ B, NmM y z k p w l f B → Fr [48, 49] [] [46, 47] [] PB B → Q none (B :: R)) : ∀ (g : Nat) (B : PS), g ≤ A → nmF (qX y z k f p) (qY y z k f p) l (f 4) A g = nmP y z k l f p → Fr [48, 49] [] [46, 47] [] PB B → SkM y z k p w A l f B → gI B 0 48 = iI 0 → gI B 0 49 = iI 0 → cX12_seekNamings_42 (0, 0, 0, 0) (d + 3) (iI (A : Nat)) (iI (g : Nat)) B R Q := by
  have hA6 := hSk.2.2.2.2.2.1
  intro g
  induction g with
  | zero =>
    intro B hg hnm fB sB n0 m0
    refine gX12_seekNamings_42 ?_
    unfold fX12_seekNamings_42
    refine ⟨fun _ => h B ⟨hA ▸ sB, ⟨?_, ?_⟩, ?_⟩ fB, fun c => absurd (by decide) c⟩
    · rw [n0, ← hnm]; rfl
    · rw [← hnm]; intro e q he; exact absurd he (Nat.not_lt_zero e)
    · rw [m0, ← hnm]; rfl
  | succ g ih =>
    intro B hg hnm fB sB n0 m0
    refine gX12_seekNamings_42 ?_
    unfold fX12_seekNamings_42
    rw [n0, show (3 : Int32) = iI 3 from rfl, iI_lt (by omega) (by omega) (by omega) (by omega)]
    have small : g + 1 < 3 → nmF (qX y z k f p) (qY y z k f p) l (f 4) A (g + 1) = ([], 0) := fun q => by
      rcases (show g = 0 ∨ g = 1 by omega) with e | e <;> subst e <;> rfl
    refine ⟨fun c => h B ⟨hA ▸ sB, ⟨?_, ?_⟩, ?_⟩ fB, fun c => ⟨fun c1 => absurd rfl c1, fun _ => ?_⟩⟩
    · rw [n0, ← hnm, small (by omega)]; rfl
    · rw [← hnm, small (by omega)]; intro e q he; exact absurd he (Nat.not_lt_zero e)
    · rw [m0, ← hnm, small (by omega)]; rfl
    obtain ⟨g', rfl⟩ : ∃ g', g = g' + 2 := ⟨g - 2, by omega⟩
    have eF : nmF (qX y z k f p) (qY y z k f p) l (f 4) A (g' + 2 + 1) = if (nmg (qX y z k f p) (qY y z k f p) l (f 4) A (g' + 2 + 1)).length = 0 then nmF (qX y z k f p) (qY y z k f p) l (f 4) A (g' + 2) else (nmg (qX y z k f p) (qY y z k f p) l (f 4) A (g' + 2 + 1), g' + 2 + 1) := rfl
    have lle := nmg_le (qX y z k f p) (qY y z k f p) l (f 4) A (g' + 2 + 1)
    refine M_seekNaming rfl rfl hg (by omega) hA6 sB (fun C nC fC => ?_)
    dsimp only [hx1, rV]
    have eg : iI ((g' + 2 + 1 : Nat)) + -1 = iI ((g' + 2 : Nat)) := by rw [show (-1 : Int32) = iI (-1) from rfl, iI_add]; refine congrArg iI ?_; omega
    rw [nC.1, eg, show (0 : Int32) = iI 0 from rfl, iI_le (by omega) (by omega) (by omega) (by omega)]
    have FC : Fr [48, 49] [] [46, 47] [] PB C := fB.trs (fC.mono (by simp) (by simp) (by simp) (by simp))
    have sC := sB.fr fC
    refine ⟨fun c1 => ?_, fun c1 => ?_⟩
    · have z0 : (nmg (qX y z k f p) (qY y z k f p) l (f 4) A (g' + 2 + 1)).length = 0 := by
        omega
      refine ih _ (by omega) ?_ (FC.sI (by simp)) sC ?_ rfl
      · rw [← hnm, eF, if_pos z0]
      · show gI C 0 48 = _
        rw [nC.1]
        rw [z0]; rfl
    · -- found
      have nz : ¬ (nmg (qX y z k f p) (qY y z k f p) l (f 4) A (g' + 2 + 1)).length = 0 := by
        omega
      have en : nmP y z k l f p = (nmg (qX y z k f p) (qY y z k f p) l (f 4) A (g' + 2 + 1), g' + 2 + 1) := by rw [← hnm, eF, if_neg nz]
      have fin : Q none ((sI C 0 49 (iI ((g' + 2 + 1 : Nat)))) :: R) := h _ ⟨hA ▸ sC, by rw [en, ← hA]; exact ⟨nC.1, nC.2⟩, by rw [en]; rfl⟩ (FC.sI (by simp))
      refine gX12_seekNamings_42 ?_
      unfold fX12_seekNamings_42
      have g48 : gI (sI C 0 49 (iI ((g' + 2 + 1 : Nat)))) 0 48 = iI ((nmg (qX y z k f p) (qY y z k f p) l (f 4) A (g' + 2 + 1)).length : Nat) := nC.1
      rw [g48]
      refine ⟨fun _ => fin, fun _ => ⟨fun _ => fin, fun c3 => ?_⟩⟩
      rw [show (0 : Int32) = iI 0 from rfl, iI_eq (by omega) (by omega) (by omega) (by omega)] at c3; omega
theorem M_seekNamings {d p w : Nat} {y : SY} {z t k : Int} {l : List SR} {f : Nat → Int} {x v : Int32} {P : PS} {R : List PS} {Q : Option AV → List PS → Prop} (hx : x = iI (p : Nat)) (hv : v = iI k) (hk : -2147483648 ≤ k ∧ k < 2147483648) (hS : StM y w z t P) (hp : p < y.1) (hB : BoM l f P) (hF : FOK f) (h : ∀ B, NmM y z k p w l f B → Fr snI [] snA [] P B → Q none (B :: R)) : Tri 230 (d + 4) [vR 0 0 0, vI x, vI v] (P :: R) Q := by
  subst hx hv
  have hK := (hS.2.2.2.2.2 p hp).2.1
  have h12 := nP_le y z k p
  refine enX12_seekNamings ?_
  unfold fX12_seekNamings_0
  refine M_lookAt rfl rfl hk hS hp (fun B1 l1 f1 => ?_)
  dsimp only [hx1, rV]
  have b1 : BoM l f B1 := hB.fr f1 (by simp) (by simp) (by simp) (by simp) (by simp)
  refine M_layLengths b1 hF l1 hK (fun B2 e2 f2 => ?_)
  dsimp only [hx1, rV]
  have m6l := m6_le (nP y z k p)
  have l2 : LaM y z k p B2 := l1.fr f2 (by simp) (by simp) (by simp) (by simp) (by simp) (by simp) (by simp) (by simp) (by simp) (by simp)
  have b2 : BoM l f B2 := b1.fr f2 (by simp) (by simp) (by simp) (by simp) (by simp)
  have F2 : Fr snI [] snA [] P B2 := (f1.mono (by simp) (by simp) (by simp) (by simp)).trs (f2.mono (by simp) (by simp) (by simp) (by simp))
  have F3 : Fr snI [] snA [] P (sI (sI B2 0 48 0) 0 49 0) := (F2.sI (by simp)).sI (by simp)
  have s3 : SkM y z k p w (aP y z k p) l f (sI (sI B2 0 48 0) 0 49 0) := ⟨l2, hK, hF, b2, e2, m6l.1, m6l.2⟩
  have go := M_sn42 (d := d) (R := R) (Q := Q) rfl s3 (fun B nB fB => h B nB (F3.trs (fB.mono (by simp) (by simp) (by simp) (by simp)))) (aP y z k p) _ (Nat.le_refl _) rfl Fr.rf s3 rfl rfl
  rw [l2.2.2.1, show (6 : Int32) = iI 6 from rfl, iI_le (by omega) (by omega) (by omega) (by omega)]
  refine ⟨fun c => ?_, fun c => ?_⟩
  · rw [show aP y z k p = 6 by unfold aP m6; rw [if_neg (by omega)]] at go; exact go
  · rw [show aP y z k p = nP y z k p by unfold aP m6; rw [if_pos (by omega)]] at go; exact go
noncomputable def namingsS (y : SY) (z a k : Int) (l : List SR) (f : Nat → Int) (x : Int32) : Int := if cntS y a k = true then (if x = 0 then ((nmP y z k l f a.toNat).1.length : Nat) else if x = 1 then ((nmP y z k l f a.toNat).2 : Nat) else -1) else -1
theorem M_namings {d w : Nat} {y : SY} {z t a k b : Int} {l : List SR} {f : Nat → Int} {P : PS} {R : List PS} {Q : Option AV → List PS → Prop} (ha : -2147483648 ≤ a ∧ a < 2147483648) (hb : -2147483648 ≤ b ∧ b < 2147483648) (hk : -2147483648 ≤ k ∧ k < 2147483648) (hS : StM y w z t P) (hB : BoM l f P) (hF : FOK f) (h : ∀ P', Fr snI [] snA [] P P' → Q (some (vI (iI (namingsS y z a k l f (iI b))))) (P' :: R)) : Tri 231 (d + 5) [vR 0 0 0, vI (iI a), vI (iI b), vI (iI k)] (P :: R) Q := by
  have hc := hS.2.1
  refine enX12_namings ?_
  unfold fX12_namings_0
  unfold namingsS at h
  simp (disch := omega) only [iI_lit, iI_eq] at h
  refine M_counts rfl rfl ha hk hS ?_
  dsimp only [hx1, rI]
  rw [oI_z, show (0 : Int32) = iI 0 from rfl, show (1 : Int32) = iI 1 from rfl, iI_lt (by omega) (by omega) (by omega) (by omega), iI_le (by omega) (by omega) (by omega) (by omega), iI_eq (by omega) (by omega) (by omega) (by omega)]
  refine ⟨fun c => ?_, fun c => ⟨fun c1 => ?_, fun c1 => ⟨fun c2 => ?_, fun c2 => ?_⟩⟩⟩
  · have := h P Fr.rf
    rw [c] at this; exact this
  · have := h P Fr.rf
    rw [show cntS y a k = true by simpa using c, if_pos rfl, if_neg (by omega), if_neg (by omega)] at this; exact this
  · have ct : cntS y a k = true := by simpa using c
    have ap := cntS_lt ct
    refine M_seekNamings (p := a.toNat) (by congr 1; omega) rfl hk hS ap.2 hB hF (fun B nB fB => ?_)
    dsimp only [hx1, rV]
    have hh := h B fB
    rw [if_pos ct] at hh
    refine ⟨fun c3 => ?_, fun c3 => ?_⟩
    · rw [if_neg c3, if_pos (by omega)] at hh; rw [nB.2.2]; exact hh
    · rw [if_pos c3] at hh; rw [nB.2.1.1]; exact hh
  · have := h P Fr.rf
    rw [show cntS y a k = true by simpa using c, if_pos rfl, if_neg (by omega), if_neg (by omega)] at this; exact this
/-- is there such a NAMING -/
def hasN (y : SY) (z a i k : Int) (l : List SR) (f : Nat → Int) : Prop := cntS y a k = true ∧ 0 ≤ i ∧ i < ((nmP y z k l f a.toNat).1.length : Nat)
theorem M_hasNaming {d w : Nat} {y : SY} {z t a i k : Int} {l : List SR} {f : Nat → Int} {x1 x2 x3 : Int32} {P : PS} {R : List PS} {Q : Option AV → List PS → Prop} (e1 : x1 = iI a) (e2 : x2 = iI i) (e3 : x3 = iI k) (ha : -2147483648 ≤ a ∧ a < 2147483648) (hi : -2147483648 ≤ i ∧ i < 2147483648) (hk : -2147483648 ≤ k ∧ k < 2147483648) (hS : StM y w z t P) (hB : BoM l f P) (hF : FOK f) (hy : ∀ P', hasN y z a i k l f → NmM y z k a.toNat w l f P' → Fr snI [] snA [] P P' → Q (some (vI (oI true))) (P' :: R)) (hn : ∀ P', ¬ hasN y z a i k l f → Fr snI [] snA [] P P' → Q (some (vI (oI false))) (P' :: R)) : Tri 232 (d + 5) [vR 0 0 0, vI x1, vI x2, vI x3] (P :: R) Q := by
  subst e1 e2 e3
  have hc := hS.2.1
  have lle := (nmF_le (qX y z k f a.toNat) (qY y z k f a.toNat) l (f 4) (aP y z k a.toNat) (aP y z k a.toNat)).1
  refine enX12_hasNaming ?_
  unfold fX12_hasNaming_0
  refine M_counts rfl rfl ha hk hS ?_
  dsimp only [hx1, rI]
  rw [oI_z, show (0 : Int32) = iI 0 from rfl, iI_le (by omega) (by omega) (by omega) (by omega)]
  refine ⟨fun c => ⟨Or.inl rfl, hn P (fun g => by have := g.1; rw [c] at this; exact absurd this (by decide)) Fr.rf⟩, fun c => ⟨fun c1 => ?_, fun c1 => ⟨Or.inl rfl, hn P (fun g => c1 g.2.1) Fr.rf⟩⟩⟩
  have ct : cntS y a k = true := by simpa using c
  have ap := cntS_lt ct
  refine M_seekNamings (p := a.toNat) (by congr 1; omega) rfl hk hS ap.2 hB hF (fun B nB fB => ?_)
  dsimp only [hx1, rV]
  have lle' : (nmP y z k l f a.toNat).1.length ≤ 200 := lle
  rw [nB.2.1.1, iI_le (by omega) (by omega) (by omega) (by omega)]
  exact ⟨fun c2 => ⟨Or.inl rfl, hn B (fun g => by have := g.2.2; omega) fB⟩, fun c2 => ⟨Or.inr rfl, hy B ⟨ct, c1, by omega⟩ nB fB⟩⟩
/-- the name of the point q in the i-th NAMING: 32 for none -/
noncomputable def nmAt (y : SY) (z k : Int) (l : List SR) (f : Nat → Int) (p i q : Nat) : Nat := if q < aP y z k p then ((nmP y z k l f p).1.getD i (fun _ => 32)) q else 32
theorem NmM.at {y : SY} {z k : Int} {p w : Nat} {l : List SR} {f : Nat → Int} {P : PS} (h : NmM y z k p w l f P) {i q : Nat} (hi : i < (nmP y z k l f p).1.length) (hq : q < 6) : gA P 0 47 (6 * i + q) = iI (nmAt y z k l f p i q : Nat) := h.2.1.2 i q hi hq
