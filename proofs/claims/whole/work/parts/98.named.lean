/-! ===== what rows of names keep ===== -/
theorem okR_congr {X Y : Nat → Int} {l : List SR} {o : Int} {i : Nat} {v v' : Nat → Nat} (h : ∀ q, q ≤ i → v q = v' q) : okR X Y l o i v ↔ okR X Y l o i v' := by
  unfold okR
  rw [h i (Nat.le_refl _)]
  constructor
  · rintro (g | g)
    · exact Or.inl g
    · refine Or.inr (fun p hp => ?_)
      rw [← h p (by omega)]
      rcases g p hp with g1 | ⟨g1, g2, g3⟩
      · exact Or.inl g1
      · exact Or.inr ⟨g1, g2, fun q h1 h2 => by rw [← h q (by omega)]; exact g3 q h1 h2⟩
  · rintro (g | g)
    · exact Or.inl g
    · refine Or.inr (fun p hp => ?_)
      rw [h p (by omega)]
      rcases g p hp with g1 | ⟨g1, g2, g3⟩
      · exact Or.inl g1
      · exact Or.inr ⟨g1, g2, fun q h1 h2 => by rw [h q (by omega)]; exact g3 q h1 h2⟩
theorem cat_mem {α : Type} {F : Nat → List α} {r : α} : ∀ n, r ∈ cat F n → ∃ s, s < n ∧ r ∈ F s
  | 0, h => by cases h
  | n + 1, h => by
    rcases List.mem_append.mp h with g | g
    · obtain ⟨s, h1, h2⟩ := cat_mem n g
      exact ⟨s, by omega, h2⟩
    · exact ⟨n, by omega, g⟩
theorem ext1_ok {X Y : Nat → Int} {l : List SR} {o : Int} {u : Nat} : ∀ (m i : Nat) (v r : Nat → Nat), r ∈ ext1 X Y l o u m i v → (∀ q, q < i → r q = v q) ∧ (∀ q, i ≤ q → q < i + m → (r q = 32 ∨ r q < l.length) ∧ okR X Y l o q r) ∧ unC r (i + m) = u
  | 0, i, v, r, h => by
    unfold ext1 at h
    split at h
    · rename_i c
      rw [List.mem_singleton] at h
      subst h
      exact ⟨fun _ _ => rfl, fun q h1 h2 => by omega, c⟩
    · cases h
  | m + 1, i, v, r, h => by
    have one : ∀ s, (s = 32 ∨ s < l.length) → r ∈ one1 X Y l o u m i v s → (∀ q, q < i → r q = v q) ∧ (∀ q, i ≤ q → q < i + (m + 1) → (r q = 32 ∨ r q < l.length) ∧ okR X Y l o q r) ∧ unC r (i + (m + 1)) = u := by
      intro s hs hm
      unfold one1 at hm
      split at hm
      · rename_i c
        have c' := dcd_t.mp c
        obtain ⟨h1, h2, h3⟩ := ext1_ok m (i + 1) (upN v i s) r hm
        have ri : r i = s := by rw [h1 i (by omega)]; unfold upN; rw [if_pos rfl]
        refine ⟨fun q hq => ?_, fun q hq1 hq2 => ?_, ?_⟩
        · rw [h1 q (by omega)]; unfold upN; rw [if_neg (by omega)]
        · by_cases cq : q = i
          · subst cq
            exact ⟨by rw [ri]; exact hs, (okR_congr (fun q' hq' => (h1 q' (by omega)).symm)).mp c'.2⟩
          · exact h2 q (by omega) (by omega)
        · rw [show i + (m + 1) = i + 1 + m by omega]; exact h3
      · cases hm
    rw [ext1_s] at h
    rcases List.mem_append.mp h with g | g
    · obtain ⟨s, h1, h2⟩ := cat_mem l.length g
      exact one s (Or.inr h1) h2
    · exact one 32 (Or.inl rfl) g
/-- a NAMING: its names, and that each goes with those before it -/
def NmOK (X Y : Nat → Int) (l : List SR) (o : Int) (A : Nat) (r : Nat → Nat) : Prop := (∀ q, q < A → (r q = 32 ∨ r q < l.length) ∧ okR X Y l o q r)
theorem nmF_ok {X Y : Nat → Int} {l : List SR} {o : Int} {A : Nat} : ∀ (g : Nat) (r : Nat → Nat), g ≤ A → r ∈ (nmF X Y l o A g).1 → NmOK X Y l o A r ∧ unC r A = A - (nmF X Y l o A g).2 ∧ 3 ≤ (nmF X Y l o A g).2
  | 0, r, _, h => by cases h
  | 1, r, _, h => by cases h
  | 2, r, _, h => by cases h
  | g + 3, r, hg, h => by
    unfold nmF at h ⊢
    split at h
    · rename_i c
      rw [if_pos c]
      exact nmF_ok (g + 2) r (by omega) h
    · rename_i c
      rw [if_neg c]
      have := ext1_ok A 0 (fun _ => 32) r (List.mem_of_mem_take h)
      exact ⟨fun q hq => this.2.1 q (Nat.zero_le _) (by omega), by rw [Nat.zero_add] at this; exact this.2.2, Nat.le_add_left 3 g⟩
theorem nmP_ok {y : SY} {z k : Int} {l : List SR} {f : Nat → Int} {p i : Nat} (hi : i < (nmP y z k l f p).1.length) : NmOK (qX y z k f p) (qY y z k f p) l (f 4) (aP y z k p) ((nmP y z k l f p).1.getD i (fun _ => 32)) ∧ unC ((nmP y z k l f p).1.getD i (fun _ => 32)) (aP y z k p) = aP y z k p - (nmP y z k l f p).2 ∧ 3 ≤ (nmP y z k l f p).2 := by
  have : (nmP y z k l f p).1.getD i (fun _ => 32) ∈ (nmP y z k l f p).1 := by
    rw [List.getD_eq_getElem?_getD, List.getElem?_eq_getElem hi]
    exact List.getElem_mem hi
  exact nmF_ok (aP y z k p) _ (Nat.le_refl _) this
theorem nmAt_lt {y : SY} {z k : Int} {l : List SR} {f : Nat → Int} {p i q : Nat} (hi : i < (nmP y z k l f p).1.length) : nmAt y z k l f p i q = 32 ∨ nmAt y z k l f p i q < l.length := by
  unfold nmAt
  split
  · rename_i c; exact ((nmP_ok hi).1 q c).1
  · exact Or.inl rfl
/-! ===== NAMED, the Model ===== -/
theorem M_isNamed {d i q w p : Nat} {y : SY} {z k : Int} {l : List SR} {f : Nat → Int} {x1 x2 : Int32} {P : PS} {R : List PS} {Q : Option AV → List PS → Prop} (e1 : x1 = iI (i : Nat)) (e2 : x2 = iI (q : Nat)) (hN : NmM y z k p w l f P) (hi : i < (nmP y z k l f p).1.length) (hq : q < 6) (h : Q (some (vI (oI (decide (nmAt y z k l f p i q ≠ 32))))) (P :: R)) : Tri 233 d [vR 0 0 0, vI x1, vI x2] (P :: R) Q := by
  subst e1 e2
  have hl := hN.1.2.2.2.1.1.2.1
  have nb := nmAt_lt (q := q) hi
  have lle : (nmP y z k l f p).1.length ≤ 200 := (nmF_le (qX y z k f p) (qY y z k f p) l (f 4) (aP y z k p) (aP y z k p)).1
  refine enX12_isNamed ?_
  unfold fX12_isNamed_0
  have eo : (6 : Int32) * iI (i : Nat) + iI (q : Nat) = iI ((6 * i + q : Nat)) := by rw [show (6 : Int32) = iI 6 from rfl, iI_mul, iI_add]; congr 1
  rw [eo, iI_cl (a := ((6 * i + q : Nat) : Int)) (by omega) (by omega), Int.toNat_natCast, hN.at hi hq, show (32 : Int32) = iI 32 from rfl, iI_eq (by omega) (by omega) (by omega) (by omega)]
  refine ⟨vpk (by omega) (by omega), fun c => ⟨Or.inl rfl, ?_⟩, fun c => ⟨Or.inr rfl, ?_⟩⟩
  · rw [decide_eq_false (by omega)] at h; exact h
  · rw [decide_eq_true (by omega)] at h; exact h
noncomputable def namedS (y : SY) (z a i q k : Int) (l : List SR) (f : Nat → Int) : Int := if dcd (hasN y z a i k l f ∧ (0 ≤ q ∧ q < 6) ∧ nmAt y z k l f a.toNat i.toNat q.toNat ≠ 32) = true then (nmAt y z k l f a.toNat i.toNat q.toNat : Nat) else -1
theorem M_named {d w : Nat} {y : SY} {z t a i q k : Int} {l : List SR} {f : Nat → Int} {P : PS} {R : List PS} {Q : Option AV → List PS → Prop} (ha : -2147483648 ≤ a ∧ a < 2147483648) (hi : -2147483648 ≤ i ∧ i < 2147483648) (hq : -2147483648 ≤ q ∧ q < 2147483648) (hk : -2147483648 ≤ k ∧ k < 2147483648) (hS : StM y w z t P) (hB : BoM l f P) (hF : FOK f) (h : ∀ P', Fr snI [] snA [] P P' → Q (some (vI (iI (namedS y z a i q k l f)))) (P' :: R)) : Tri 234 (d + 6) [vR 0 0 0, vI (iI a), vI (iI i), vI (iI q), vI (iI k)] (P :: R) Q := by
  refine enX12_named ?_
  unfold fX12_named_0
  unfold namedS at h
  have no : ∀ P', ¬ (hasN y z a i k l f ∧ (0 ≤ q ∧ q < 6) ∧ nmAt y z k l f a.toNat i.toNat q.toNat ≠ 32) → Fr snI [] snA [] P P' → Q (some (vI (-1))) (P' :: R) := fun P' c fP => by
    have := h P' fP
    rw [if_neg (fun g => c (dcd_t.mp g))] at this; exact this
  refine M_isIn (b := 6) rfl rfl hq (by omega) ?_
  dsimp only [hx1, rI]
  rw [oI_dec]
  refine ⟨fun c => no P (fun g => c g.2.1) Fr.rf, fun c => ?_⟩
  have c' := Decidable.not_not.mp c
  refine M_hasNaming rfl rfl rfl ha hi hk hS hB hF (fun B hN nB fB => ?_) (fun B hN fB => ?_)
  · dsimp only [hx1, rI]
    refine ⟨fun g => absurd g (by decide), fun _ => ?_⟩
    have i0 := hN.2
    have nb := nmAt_lt (y := y) (z := z) (k := k) (l := l) (f := f) (p := a.toNat) (i := i.toNat) (q := q.toNat) (by omega)
    have hl := nB.1.2.2.2.1.1.2.1
    have lle : (nmP y z k l f a.toNat).1.length ≤ 200 := (nmF_le (qX y z k f a.toNat) (qY y z k f a.toNat) l (f 4) (aP y z k a.toNat) (aP y z k a.toNat)).1
    refine M_isNamed (i := i.toNat) (q := q.toNat) (by congr 1; omega) (by congr 1; omega) nB (by omega) (by omega) ?_
    dsimp only [hx1, rI]
    rw [oI_dec]
    have eo : (6 : Int32) * iI i + iI q = iI ((6 * i.toNat + q.toNat : Nat)) := by rw [show (6 : Int32) = iI 6 from rfl, iI_mul, iI_add]; refine congrArg iI ?_; omega
    rw [eo, iI_cl (a := ((6 * i.toNat + q.toNat : Nat) : Int)) (by omega) (by omega), Int.toNat_natCast, nB.at (by omega) (by omega)]
    refine ⟨fun g => ⟨vpk (by omega) (by omega), ?_⟩, fun g => no B (fun g' => g g'.2.2) fB⟩
    have := h B fB
    rw [if_pos (dcd_t.mpr ⟨hN, c', Decidable.not_not.mp g⟩)] at this; exact this
  · dsimp only [hx1, rI]
    exact ⟨fun _ => no B (fun g => hN g.1) fB, fun g => absurd rfl g⟩
/-! ===== the class: the points' places ===== -/
theorem C_pairOf {d a b : Nat} {x y : Int32} {R : List PS} {Q : Option AV → List PS → Prop} (hx : x = iI (a : Nat)) (hy : y = iI (b : Nat)) (hab : a < b) (hb : b < 6) (h : Q (some (vI (iI ((b * (b - 1) / 2 + a : Nat))))) R) : Tri 26 d [vI x, vI y] R Q := by
  subst hx hy
  refine enX2_pairOf ?_
  unfold fX2_pairOf_0
  have fin : ∀ b, b < 6 → ∀ a, a < b → b * (b - 1) / 2 + a < 15 := by decide +kernel
  have hlt := fin b hb a hab
  have bb : b * (b - 1) ≤ 30 := by
    have : ∀ b, b < 6 → b * (b - 1) ≤ 30 := by decide +kernel
    exact this b hb
  have e : iI (b : Nat) * (iI (b : Nat) - 1) / 2 + iI (a : Nat) = iI ((b * (b - 1) / 2 + a : Nat)) := by
    have e1 : iI (b : Nat) - 1 = iI ((b - 1 : Nat)) := by rw [show (1 : Int32) = iI 1 from rfl, iI_sub]; refine congrArg iI ?_; omega
    rw [e1, iI_mul, ← Int.natCast_mul, show (2 : Int32) = iI 2 from rfl, iI_div (by omega) (by omega) (by omega) (by omega), iI_add]
    refine congrArg iI ?_
    omega
  rw [e, show (0 : Int32) = iI 0 from rfl, iI_lt (by omega) (by omega) (by omega) (by omega), show (15 : Int32) = iI 15 from rfl, iI_le (by omega) (by omega) (by omega) (by omega)]
  exact ⟨by decide, fun c => absurd c (by omega), fun _ => ⟨fun c => absurd c (by omega), fun _ => h⟩⟩
def prO (a b : Nat) : Nat := b * (b - 1) / 2 + a
theorem prO_ok : ∀ b, b < 6 → ∀ a, a < b → prO a b < 15 := by decide +kernel
theorem prO_iv : ∀ b, b < 6 → ∀ a, a < b → b * (b - 1) / 2 ≤ prO a b ∧ prO a b < (b + 1) * b / 2 := by decide +kernel
theorem tri_mono : ∀ b, b < 6 → ∀ c, c < 6 → (b < c → (b + 1) * b / 2 ≤ c * (c - 1) / 2) := by decide +kernel
theorem prO_inj {a b a' b' : Nat} (hb : b < 6) (ha : a < b) (hb' : b' < 6) (ha' : a' < b') (h : prO a b = prO a' b') : a = a' ∧ b = b' := by
  have h1 := prO_iv b hb a ha
  have h2 := prO_iv b' hb' a' ha'
  have e : b = b' := by
    rcases Nat.lt_trichotomy b b' with c | c | c
    · have := tri_mono b hb b' hb' c; omega
    · exact c
    · have := tri_mono b' hb' b hb c; omega
  subst e
  refine ⟨?_, rfl⟩
  unfold prO at h
  omega
/-- the points' places in the namer -/
def PlC (X Y : Nat → Int) (A : Nat) (P : PS) : Prop := gI P 0 4 = iI (A : Nat) ∧ ∀ i, i < A → gA P 0 1 i = iI (X i) ∧ gA P 0 2 i = iI (Y i)
theorem C_place {d j kb p w : Nat} {y : SY} {z k : Int} {f : Nat → Int} {x : Int32} {P0 P1 P2 P3 P4 P5 P6 P7 P8 : PS} {R : List PS} {Q : Option AV → List PS → Prop} (hP : PiC j (y.2.1 p) z P3) (hx : gI P3 j 10 = x) (hxb : ∀ e, e < 32 → bz x e = (decide (e < nD (y.2.1 p) z) && ptB y z k p e)) (hT : TdC kb f P2) (h : ∀ P8', PlC (qX y z k f p) (qY y z k f p) (aP y z k p) P8' → Fr [4] [] [1, 2] [] P8 P8' → Q none (P0 :: P1 :: P2 :: P3 :: P4 :: P5 :: P6 :: P7 :: P8' :: R)) : Tri 28 (d + 1) [vR 8 0 0, vR 3 j 0, vR 2 kb 0] (P0 :: P1 :: P2 :: P3 :: P4 :: P5 :: P6 :: P7 :: P8 :: R) Q := by
  have h12 := (nD_le (y.2.1 p) z).1
  have hn12 := nP_le y z k p
  have m6l := m6_le (nP y z k p)
  refine enX2_place ?_
  unfold fX2_place_0
  refine J_bitCount ?_
  dsimp only [hx9, rI]
  rw [hx, bcn_cut (by omega) hxb]
  have e6 : (if iI (cnt (ptB y z k p) (nD (y.2.1 p) z) : Nat) < 6 then iI (cnt (ptB y z k p) (nD (y.2.1 p) z) : Nat) else (6 : Int32)) = iI (aP y z k p : Nat) := by
    have : cnt (ptB y z k p) (nD (y.2.1 p) z) = nP y z k p := rfl
    rw [this]
    simp (disch := omega) only [show (6 : Int32) = iI 6 from rfl, iI_lt]
    unfold aP m6
    by_cases c : nP y z k p < 6
    · rw [if_pos (by omega), if_pos c]
    · rw [if_neg (by omega), if_neg c]; rfl
  rw [e6]
  have A6 : aP y z k p ≤ 6 ∧ aP y z k p ≤ nP y z k p := m6l
  have key : ∀ (m i : Nat) (A : PS), i + m = aP y z k p → Fr [4] [] [1, 2] [] P8 A → gI A 0 4 = iI (aP y z k p : Nat) → (∀ q, q < i → gA A 0 1 q = iI (qX y z k f p q) ∧ gA A 0 2 q = iI (qY y z k f p q)) → cX2_place_18 (0, 0, 0, 0) d j kb (iI (i : Nat)) P0 P1 P2 P3 P4 P5 P6 P7 A R Q := by
    intro m
    induction m with
    | zero =>
      intro i A hi fA gA' hA
      refine gX2_place_18 ?_
      unfold fX2_place_18
      rw [gA', iI_le (by omega) (by omega) (by omega) (by omega)]
      exact ⟨fun _ => h A ⟨gA', fun q hq => hA q (by omega)⟩ fA, fun c => absurd (by omega) c⟩
    | succ m ih =>
      intro i A hi fA gA' hA
      have pd := ptD_lt (show i < nP y z k p by omega)
      have pe := hP.2.1 _ pd
      refine gX2_place_18 ?_
      unfold fX2_place_18
      rw [gA', iI_le (by omega) (by omega) (by omega) (by omega), show (6 : Int32) = iI 6 from rfl, iI_le (by omega) (by omega) (by omega) (by omega), hx]
      refine ⟨fun c => absurd c (by omega), fun _ => ⟨fun c => absurd c (by omega), fun _ => C_nthBit rfl (by omega) h12 hxb ?_⟩⟩
      dsimp only [hx9, rI]
      have ci : (0 : Int) ≤ (i : Nat) ∧ ((i : Nat) : Int) < (cnt (ptB y z k p) (nD (y.2.1 p) z) : Nat) := by
        have : cnt (ptB y z k p) (nD (y.2.1 p) z) = nP y z k p := rfl
        omega
      rw [if_pos ci, Int.toNat_natCast, show nth (ptB y z k p) i (nD (y.2.1 p) z) = ptD y z k p i from rfl]
      have vd : vp_in (iI (ptD y z k p i : Nat)) 12 := vpk (by omega) (by omega)
      have vi : vp_in (iI (i : Nat)) 6 := vpk (by omega) (by omega)
      rw [show (0 : Int32) = iI 0 from rfl, iI_lt (by omega) (by omega) (by omega) (by omega), show (12 : Int32) = iI 12 from rfl, iI_le (by omega) (by omega) (by omega) (by omega), iI_cl (a := (ptD y z k p i : Nat)) (by omega) (by omega), iI_cl (a := (i : Nat)) (by omega) (by omega), Int.toNat_natCast, Int.toNat_natCast, pe.1, pe.2.1, show gI P2 kb 7 = iI (f 1) from hT 1 (by omega), iI_mul, iI_mul, show iI (i : Nat) + 1 = iI ((i + 1 : Nat)) from iI_add (i : Nat) 1]
      refine ⟨fun c => absurd c (by omega), fun _ => ⟨fun c => absurd c (by omega), fun _ => ⟨vd, vi, vd, vi, ih (i + 1) _ (by omega) ((fA.sA (by simp)).sA (by simp)) gA' (fun q hq => ?_)⟩⟩⟩
      simp only [gI_sI, gI_sL, gI_sA, gI_sB, gI_sO, gI_sR, gI_sW, gL_sI, gL_sL, gL_sA, gL_sB, gL_sO, gL_sR, gL_sW, gA_sI, gA_sL, gA_sA, gA_sB, gA_sO, gA_sR, gB_sI, gB_sL, gB_sA, gB_sB, gB_sO, gB_sR, gB_sW, gO_sI, gO_sL, gO_sA, gO_sB, gO_sO, gO_sR, gO_sW, gR_sI, gR_sL, gR_sA, gR_sB, gR_sO, gR_sR, gR_sW, gN_sI, gN_sL, gN_sA, gN_sB, gN_sO, gN_sR, gN_sW, if_true, if_false, Nat.reduceEqDiff, reduceIte]
      by_cases c : q = i
      · rw [if_pos c, if_pos c, c]; exact ⟨rfl, rfl⟩
      · rw [if_neg c, if_neg c]; exact hA q (by omega)
  exact key (aP y z k p) 0 _ (by omega) (Fr.rf.sI (by simp)) rfl (fun q hq => absurd hq (Nat.not_lt_zero q))
