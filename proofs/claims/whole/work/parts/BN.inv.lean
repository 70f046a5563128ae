/-! ===== what holds between two calls: the class's heap and the Model's tell one story ===== -/
def BxM (k w : Nat) (y : SY) (t : Int) (P : PS) : Prop := gA P 0 92 k = iI (y.1 : Nat) ∧ gA P 0 93 k = iI t ∧ (∀ c r, c < 16 → r < 16 → gA P 0 88 (256 * k + (16 * r + c)) = oI (y.2.2.2.2 c r)) ∧ ∀ q, q < y.1 → (∀ r c, r < w → c < w → gA P 0 89 (3072 * k + (256 * q + (16 * r + c))) = iI (y.2.1 q (16 * r + c))) ∧ gA P 0 90 (12 * k + q) = iI (y.2.2.1 q) ∧ gA P 0 91 (12 * k + q) = iI (y.2.2.2.1 q)
def BxC (k : Nat) (y : SY) (t : Int) (X : BXt) (P : PS) : Prop := gI P (k + 1) 4 = iI (y.1 : Nat) ∧ gI P (k + 1) 5 = iI t ∧ gI P (k + 1) 6 = iI (frN y.2.2.2.2 : Nat) ∧ FpC (k + 1) y.2.2.2.2 P ∧ (∀ q, q < y.1 → gA P (k + 1) 1 q = iI (y.2.2.1 q) ∧ gA P (k + 1) 2 q = iI (y.2.2.2.1 q) ∧ ∃ i, gR P (k + 1) 0 q = some i ∧ X.1 i ∧ y.2.1 q = X.2 i) ∧ ∀ q q', q < y.1 → q' < y.1 → ∀ i, gR P (k + 1) 0 q = some i → gR P (k + 1) 0 q' = some i → q = q'
def IT (b : Nat → Int) (n : Nat) (e : PE) (P0 P1 : PS) : Prop := TpM b n P0 ∧ TpC b n P1 ∧ (gI P0 0 2 = iI e.1 ∧ gI P0 0 3 = iI e.2) ∧ FaC e P1 ∧ OwC P1
def IU (l : List SR) (f : Nat → Int) (P5 : PS) : Prop := LoC l f P5 ∧ ChC l f P5 ∧ HeC l f P5 ∧ DbC l f P5
def IB (l : List SR) (f : Nat → Int) (kb ks : Nat) (P0 P2 P12 : PS) : Prop := BoM l f P0 ∧ FOK f ∧ BoC kb l f P2 ∧ (DgC kb P2 ∧ DgC ks P2 ∧ kb ≠ ks) ∧ gO P12 0 11 = some kb ∧ gO P12 0 12 = some ks
def IS (l : List SR) (f : Nat → Int) (y : SY) (t : Int) (X : BXt) (P0 P3 P6 : PS) : Prop := StM y (f 0).toNat (f 3) t P0 ∧ StC 0 y (f 3) t P3 P6 ∧ SyK y (f 0).toNat (f 3) t ∧ CsC X y (f 3) l f P3 P6 ∧ InjP y P6 ∧ ∀ i, X.1 i → i < gN P3
def IX (f : Nat → Int) (X : BXt) (P0 P6 : PS) : Prop := ∀ k, k < 3 → (gA P0 0 87 k ≠ 0 ↔ gI P6 (k + 1) 7 ≠ 0) ∧ (gI P6 (k + 1) 7 ≠ 0 → ∃ y t, SyK y (f 0).toNat (f 3) t ∧ BxM k (f 0).toNat y t P0 ∧ BxC k y t X P6)
def IR (rs : List RLt) (u kl ks : Nat) (P0 P4 P12 : PS) : Prop := RlM rs u P0 ∧ LwC kl rs u P4 ∧ RsK rs ∧ VC (cds rs) ∧ (cds rs).length ≤ 300 ∧ kl ≠ ks ∧ gO P12 0 13 = some kl ∧ gO P12 0 14 = some ks
def IO (P12 : PS) : Prop := ∀ k, k < 3 → gR P12 0 8 k = some (k + 1)
def INV (hs : List PS) : Prop := ∃ (P0 P1 P2 P3 P4 P5 P6 P7 P8 P9 P10 P11 P12 : PS) (b : Nat → Int) (n : Nat) (e : PE) (l : List SR) (f : Nat → Int) (kb ks : Nat) (y : SY) (t : Int) (X : BXt) (rs : List RLt) (u kl kls : Nat), hs = P0 :: P1 :: P2 :: P3 :: P4 :: P5 :: P6 :: P7 :: P8 :: P9 :: P10 :: P11 :: P12 :: [] ∧ IT b n e P0 P1 ∧ IB l f kb ks P0 P2 P12 ∧ IU l f P5 ∧ IS l f y t X P0 P3 P6 ∧ IX f X P0 P6 ∧ IR rs u kl kls P0 P4 P12 ∧ IO P12
theorem BxM.sm {k w : Nat} {y : SY} {t : Int} {P P' : PS} (h : BxM k w y t P) (s : SM P P') : BxM k w y t P' := by
  refine ⟨by rw [s.2 _ (by simp)]; exact h.1, by rw [s.2 _ (by simp)]; exact h.2.1, fun c r hc hr => by rw [s.2 _ (by simp)]; exact h.2.2.1 c r hc hr, fun q hq => ?_⟩
  have g := h.2.2.2 q hq
  exact ⟨fun r c hr hc => by rw [s.2 _ (by simp)]; exact g.1 r c hr hc, by rw [s.2 _ (by simp)]; exact g.2.1, by rw [s.2 _ (by simp)]; exact g.2.2⟩
theorem IT.sm {b : Nat → Int} {n : Nat} {e : PE} {P P' P1 : PS} (h : IT b n e P P1) (s : SM P P') : IT b n e P' P1 := ⟨h.1.sm s, h.2.1, ⟨by rw [s.1 _ (by simp)]; exact h.2.2.1.1, by rw [s.1 _ (by simp)]; exact h.2.2.1.2⟩, h.2.2.2⟩
theorem IB.sm {l : List SR} {f : Nat → Int} {kb ks : Nat} {P P' P2 P12 : PS} (h : IB l f kb ks P P2 P12) (s : SM P P') : IB l f kb ks P' P2 P12 := ⟨h.1.sm s, h.2⟩
theorem IS.sm {l : List SR} {f : Nat → Int} {y : SY} {t : Int} {X : BXt} {P P' P3 P6 : PS} (h : IS l f y t X P P3 P6) (s : SM P P') : IS l f y t X P' P3 P6 := ⟨h.1.sm s, h.2⟩
theorem IX.sm {f : Nat → Int} {X : BXt} {P P' P6 : PS} (h : IX f X P P6) (s : SM P P') : IX f X P' P6 := fun k hk => ⟨by rw [s.2 _ (by simp)]; exact (h k hk).1, fun g => by
  obtain ⟨y, t, h1, h2, h3⟩ := (h k hk).2 g
  exact ⟨y, t, h1, h2.sm s, h3⟩⟩
theorem IR.sm {rs : List RLt} {u kl ks : Nat} {P P' P4 P12 : PS} (h : IR rs u kl ks P P4 P12) (s : SM P P') : IR rs u kl ks P' P4 P12 := ⟨h.1.sm s, h.2⟩
/-- one call of the class, then the same of the Model -/
abbrev kdA (g : Bool) (r : Option AV) : Prop := match g with
  | true => ∃ x, r = some (vL x)
  | false => ∃ x, r = some (vI x)
def Two (iC iM : Nat) (g : Bool) (mc ms : Nat) (As : List AV) (hs : List PS) : Prop := TriM (mt iC) 70 mc ms (vR 12 0 0 :: As) hs (fun r h1 => Tri iM 70 (vR 0 0 0 :: As) h1 (fun r2 h2 => r2 = r ∧ kdA g r ∧ INV h2))
section MK
variable {P0 P1 P2 P3 P4 P5 P6 P7 P8 P9 P10 P11 P12 : PS} {b : Nat → Int} {n : Nat} {e : PE} {l : List SR} {f : Nat → Int} {kb ks : Nat} {y : SY} {t : Int} {X : BXt} {rs : List RLt} {u kl kls : Nat}
/-- a question changes nothing of it -/
theorem mkI {P0' P3' P4' P5' P7' P8' P9' P10' P11' P12' : PS} (hT : IT b n e P0 P1) (hB : IB l f kb ks P0 P2 P12) (hS : IS l f y t X P0 P3 P6) (hX : IX f X P0 P6) (hR : IR rs u kl kls P0 P4 P12) (hO : IO P12) (s : SM P0 P0') (h5 : IU l f P5') (h3 : StC 0 y (f 3) t P3' P6 ∧ CsC X y (f 3) l f P3' P6 ∧ gN P3' = gN P3) (h4 : LwC kl rs u P4') (h12 : (∀ a, gO P12' 0 a = gO P12 0 a) ∧ ∀ a i, gR P12' 0 a i = gR P12 0 a i) : INV (P0' :: P1 :: P2 :: P3' :: P4' :: P5' :: P6 :: P7' :: P8' :: P9' :: P10' :: P11' :: P12' :: []) :=
  ⟨P0', P1, P2, P3', P4', P5', P6, P7', P8', P9', P10', P11', P12', b, n, e, l, f, kb, ks, y, t, X, rs, u, kl, kls, rfl, hT.sm s, ⟨hB.1.sm s, hB.2.1, hB.2.2.1, hB.2.2.2.1, by rw [h12.1]; exact hB.2.2.2.2.1, by rw [h12.1]; exact hB.2.2.2.2.2⟩, h5, ⟨hS.1.sm s, h3.1, hS.2.2.1, h3.2.1, hS.2.2.2.2.1, fun i hi => by rw [h3.2.2]; exact hS.2.2.2.2.2 i hi⟩, hX.sm s, ⟨hR.1.sm s, h4, hR.2.2.1, hR.2.2.2.1, hR.2.2.2.2.1, hR.2.2.2.2.2.1, by rw [h12.1]; exact hR.2.2.2.2.2.2.1, by rw [h12.1]; exact hR.2.2.2.2.2.2.2⟩, fun k hk => by rw [h12.2]; exact hO k hk⟩
theorem IS.st (hS : IS l f y t X P0 P3 P6) : StC 0 y (f 3) t P3 P6 ∧ CsC X y (f 3) l f P3 P6 ∧ gN P3 = gN P3 := ⟨hS.2.1, hS.2.2.2.1, rfl⟩
/-- what naming a picture leaves -/
theorem IS.nm {P3' : PS} {i : Nat} {a k : Int} (hS : IS l f y t X P0 P3 P6) (h1 : cntS y a k = true → gR P6 0 0 a.toNat = some i ∧ CaC i (y.2.1 a.toNat) (f 3) l f P3' ∧ frP i P3 P3') (h2 : cntS y a k = false → P3' = P3) : StC 0 y (f 3) t P3' P6 ∧ CsC X y (f 3) l f P3' P6 ∧ gN P3' = gN P3 := by
  cases c : cntS y a k with
  | true =>
    obtain ⟨g1, g2, g3⟩ := h1 c
    exact ⟨hS.2.1.any g3, hS.2.2.2.1.up hS.2.2.2.2.1 (cntS_lt c).2 g1 g2 g3, g3.1.1⟩
  | false => rw [h2 c]; exact hS.st
theorem id12 : (∀ a, gO P12 0 a = gO P12 0 a) ∧ ∀ a i, gR P12 0 a i = gR P12 0 a i := ⟨fun _ => rfl, fun _ _ => rfl⟩
theorem FrA.id {as : List Nat} {P P' : PS} (h : FrA as P P') : (∀ a, gO P' 0 a = gO P 0 a) ∧ ∀ a i, gR P' 0 a i = gR P 0 a i := ⟨fun a => h.2.1 0 a, fun a i => h.2.2 0 a i⟩
end MK
/-! the survey's four -/
theorem LoC.fr {l : List SR} {f : Nat → Int} {is as : List Nat} {P P' : PS} (h : LoC l f P) (fr : Fr is [] as [] P P') (h1 : ([10, 4, 5, 6, 7].all fun a => !(is.elem a)) = true) (h2 : ([0, 1].all fun a => !(as.elem a)) = true) : LoC l f P' := by
  have k1 : ∀ a, a ∈ [10, 4, 5, 6, 7] → gI P' 0 a = gI P 0 a := fun a ha => fr.2.1 a (fun g => by have := List.all_eq_true.mp h1 a ha; rw [List.elem_eq_true_of_mem g] at this; cases this)
  have k2 : ∀ a, a ∈ [0, 1] → ∀ i, gA P' 0 a i = gA P 0 a i := fun a ha i => fr.2.2.2.1 a i (fun g => by have := List.all_eq_true.mp h2 a ha; rw [List.elem_eq_true_of_mem g] at this; cases this)
  intro c
  rw [k1 _ (by simp)] at c
  obtain ⟨⟨g1, g2, g3⟩, n, W, ⟨w1, w2, w3⟩, w4⟩ := h c
  exact ⟨⟨by rw [k1 _ (by simp)]; exact g1, by rw [k1 _ (by simp)]; exact g2, by rw [k1 _ (by simp)]; exact g3⟩, n, W, ⟨by rw [k1 _ (by simp)]; exact w1, w2, fun i hi => by rw [k2 _ (by simp), k2 _ (by simp)]; exact w3 i hi⟩, w4⟩
theorem ChC.fr {l : List SR} {f : Nat → Int} {is as : List Nat} {P P' : PS} (h : ChC l f P) (fr : Fr is [] as [] P P') (h1 : 11 ∉ is) (h2 : 8 ∉ is) : ChC l f P' := by
  intro c
  rw [fr.2.1 _ h1] at c
  obtain ⟨v, g1, g2⟩ := h c
  exact ⟨v, g1, by rw [fr.2.1 _ h2]; exact g2⟩
theorem HeC.fr {l : List SR} {f : Nat → Int} {is as : List Nat} {P P' : PS} (h : HeC l f P) (fr : Fr is [] as [] P P') (h1 : 12 ∉ is) (h2 : 3 ∉ as) : HeC l f P' := by
  intro c i hi
  rw [fr.2.1 _ h1] at c
  rw [fr.2.2.2.1 _ _ h2]; exact h c i hi
theorem DbC.fr {l : List SR} {f : Nat → Int} {is as : List Nat} {P P' : PS} (h : DbC l f P) (fr : Fr is [] as [] P P') (h1 : 13 ∉ is) (h2 : 9 ∉ is) : DbC l f P' := by
  intro c
  rw [fr.2.1 _ h1] at c
  rw [fr.2.1 _ h2]; exact h c
