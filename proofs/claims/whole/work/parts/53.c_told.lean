/-! ===== the class: the lines of a BOOK ===== -/
/-- of the pool of books only book j has changed -/
def FrJ (j : Nat) (P P' : PS) : Prop := gN P' = gN P ∧ ∀ j', j' ≠ j → (∀ a, gI P' j' a = gI P j' a) ∧ (∀ a, gL P' j' a = gL P j' a) ∧ (∀ a i, gA P' j' a i = gA P j' a i) ∧ (∀ a i, gB P' j' a i = gB P j' a i) ∧ (∀ a, gO P' j' a = gO P j' a) ∧ (∀ a i, gR P' j' a i = gR P j' a i)
theorem FrJ.rf {j : Nat} {P : PS} : FrJ j P P := ⟨rfl, fun _ _ => ⟨fun _ => rfl, fun _ => rfl, fun _ _ => rfl, fun _ _ => rfl, fun _ => rfl, fun _ _ => rfl⟩⟩
theorem FrJ.tr {j : Nat} {P P' P'' : PS} (h : FrJ j P P') (h' : FrJ j P' P'') : FrJ j P P'' := ⟨h'.1.trans h.1, fun j' hj => ⟨fun a => ((h'.2 j' hj).1 a).trans ((h.2 j' hj).1 a), fun a => ((h'.2 j' hj).2.1 a).trans ((h.2 j' hj).2.1 a), fun a i => ((h'.2 j' hj).2.2.1 a i).trans ((h.2 j' hj).2.2.1 a i), fun a i => ((h'.2 j' hj).2.2.2.1 a i).trans ((h.2 j' hj).2.2.2.1 a i), fun a => ((h'.2 j' hj).2.2.2.2.1 a).trans ((h.2 j' hj).2.2.2.2.1 a), fun a i => ((h'.2 j' hj).2.2.2.2.2 a i).trans ((h.2 j' hj).2.2.2.2.2 a i)⟩⟩
theorem FrJ.sI {j a : Nat} {v : Int32} {P P' : PS} (h : FrJ j P P') : FrJ j P (sI P' j a v) := ⟨h.1, fun j' hj => ⟨fun a' => by rw [gI_sI]; rw [if_neg hj]; split <;> exact (h.2 j' hj).1 a', (h.2 j' hj).2⟩⟩
theorem FrJ.sA {j a i : Nat} {v : Int32} {P P' : PS} (h : FrJ j P P') : FrJ j P (sA P' j a i v) := ⟨h.1, fun j' hj => ⟨(h.2 j' hj).1, (h.2 j' hj).2.1, fun a' i' => by rw [gA_sA]; rw [if_neg hj]; split <;> exact (h.2 j' hj).2.2.1 a' i', (h.2 j' hj).2.2.2⟩⟩
theorem FrJ.sB {j a i : Nat} {v : Int64} {P P' : PS} (h : FrJ j P P') : FrJ j P (sB P' j a i v) := ⟨h.1, fun j' hj => ⟨(h.2 j' hj).1, (h.2 j' hj).2.1, (h.2 j' hj).2.2.1, fun a' i' => by rw [gB_sB]; rw [if_neg hj]; split <;> exact (h.2 j' hj).2.2.2.1 a' i', (h.2 j' hj).2.2.2.2⟩⟩
/-- of a pool of BOOKS only the book j has changed, and of that one not its lengths -/
def FrB (j : Nat) (P P' : PS) : Prop := FrJ j P P' ∧ ∀ i, gA P' j 4 i = gA P j 4 i
theorem FrB.rf {j : Nat} {P : PS} : FrB j P P := ⟨FrJ.rf, fun _ => rfl⟩
theorem FrB.tr {j : Nat} {P P' P'' : PS} (h : FrB j P P') (h' : FrB j P' P'') : FrB j P P'' := ⟨h.1.tr h'.1, fun i => (h'.2 i).trans (h.2 i)⟩
theorem FrB.sI {j a : Nat} {v : Int32} {P P' : PS} (h : FrB j P P') : FrB j P (sI P' j a v) := ⟨h.1.sI, h.2⟩
theorem FrB.sA {j a i : Nat} {v : Int32} {P P' : PS} (h : FrB j P P') (ha : ¬ 4 = a := by decide) : FrB j P (sA P' j a i v) := ⟨h.1.sA, fun i' => by rw [gA_sA, if_neg ha]; exact h.2 i'⟩
theorem FrB.sB {j a i : Nat} {v : Int64} {P P' : PS} (h : FrB j P P') : FrB j P (sB P' j a i v) := ⟨h.1.sB, h.2⟩
/-- no way from a star to itself -/
def DgC (j : Nat) (P : PS) : Prop := ∀ u, u < 32 → gA P j 4 (u * 32 + u) = iI 0
theorem DgC.fr {j : Nat} {P P' : PS} (h : DgC j P) (hf : FrB j P P') : DgC j P' := fun u hu => (hf.2 _).trans (h u hu)
def TdC (j : Nat) (f : Nat → Int) (P : PS) : Prop := ∀ k, k < 12 → gI P j (6 + k) = iI (f k)
def SsC (j : Nat) (l : List SR) (P : PS) : Prop := gI P j 5 = iI l.length ∧ l.length ≤ 32 ∧ (∀ s ∈ l, StOK s) ∧ ∀ i, i < l.length → gB P j 0 i = iL (p32 (nthS l i).1) ∧ gA P j 1 i = iI (nthS l i).2.1 ∧ gA P j 2 i = iI (nthS l i).2.2.1 ∧ gA P j 3 i = iI (nthS l i).2.2.2
theorem TdC.up {j : Nat} {f : Nat → Int} {P : PS} (h : TdC j f P) (k : Nat) {v : Int} : TdC j (upI f k v) (sI P j (6 + k) (iI v)) := fun i hi => by
  rw [gI_sI]; unfold upI
  by_cases c : i = k
  · subst c; rw [if_pos rfl, if_pos rfl, if_pos rfl]
  · rw [if_neg (show ¬ 6 + i = 6 + k by omega), if_neg c]; exact h i hi
theorem SsC.sI {j a : Nat} {l : List SR} {v : Int32} {P : PS} (h : SsC j l P) (ha : ¬ 5 = a) : SsC j l (sI P j a v) := ⟨by rw [gI_sI, if_neg ha]; exact h.1, h.2⟩
theorem C_by {d i : Nat} {b : Nat → Int} {n q : Nat} {x lo' hi' : Int32} {lo hi : Int} {P0 P1 P2 : PS} {R : List PS} {Q : Option AV → List PS → Prop} {K : PS → PS → PS → List PS → Prop} (w : List Int) (hi27 : i < 27) (hw : OWN.getD i [] = w) (hx : x = iI i) (elo : lo' = iI lo) (ehi : hi' = iI hi) (hlo : -100000 ≤ lo ∧ lo ≤ 100000) (hhi : -100000 ≤ hi ∧ hi ≤ 100000) (hq : q ≤ n) (ht : TxC false b n P1) (hk : TkC (tok false b n q) P1)
    (hy : ∀ P1' v q', byS b n w lo hi q = .ok (v, q') → q < q' → q' ≤ n → gI P1' 0 8 = iI v → TxC false b n P1' → TkC (tok false b n q') P1' → Fr tsI [7] [] [] P1 P1' → K P0 P1' P2 R) (hn : ∀ P1' e, byS b n w lo hi q = .error e → FaC e P1' → Fr tcI [7] [] [] P1 P1' → Q (some (vI (iI 0))) (P0 :: P1' :: P2 :: R)) :
    Tri 111 (d + 2) [vR 1 0 0, vI x] (P0 :: P1 :: P2 :: R) (fun r2 h2 => hx3 h2 fun P0_2 P1_2 P2_2 R_2 => rI r2 fun y2 => (y2 = 0 → ((0 : Int32) = 0 ∨ (0 : Int32) = 1) ∧ Q (some (vI (0 : Int32))) (P0_2 :: P1_2 :: P2_2 :: R_2)) ∧ (¬ y2 = 0 → Tri 113 (d + 2) [vR 1 0 0, vI lo', vI hi'] (P0_2 :: P1_2 :: P2_2 :: R_2) (fun r3 h3 => hx3 h3 fun P0_3 P1_3 P2_3 R_3 => rI r3 fun y3 => (¬ y3 = 0 → K P0_3 P1_3 P2_3 R_3) ∧ (y3 = 0 → ((0 : Int32) = 0 ∨ (0 : Int32) = 1) ∧ Q (some (vI (0 : Int32))) (P0_3 :: P1_3 :: P2_3 :: R_3))))) := by
  refine C_takeWord w hi27 hw hx hq ht hk (fun P' q1 e1 l1 l2 k1 f1 => ?_) (fun P' e e1 fa f1 => ?_)
  · dsimp only [hx3, rI]
    refine ⟨fun c => absurd c (by decide), fun _ => ?_⟩
    have ht1 := ht.fr f1 (by simp [tcI, tsI]) (by simp [tcI, tsI]) (by simp) (by simp)
    refine C_takeNumber elo ehi hlo hhi l2 ht1 k1 (fun P'' v q2 e2 _ _ l3 l4 tk _ k2 f2 => ?_) (fun P'' e e2 fa f2 => ?_)
    · dsimp only [hx3, rI]
      exact ⟨fun _ => hy P'' v q2 (by unfold byS; rw [e1]; exact e2) (by omega) l4 tk (ht1.fr f2 (by simp [tcI, tsI]) (by simp [tcI, tsI]) (by simp) (by simp)) k2 (f1.trs f2), fun c => absurd c (by decide)⟩
    · dsimp only [hx3, rI]
      exact ⟨fun c => absurd rfl c, fun _ => ⟨Or.inl rfl, hn P'' e (by unfold byS; rw [e1]; exact e2) fa (f1.te f2)⟩⟩
  · dsimp only [hx3, rI]
    exact ⟨fun _ => ⟨Or.inl rfl, hn P' e (by unfold byS; rw [e1]; rfl) fa f1⟩, fun c => absurd rfl c⟩
theorem C_num {d : Nat} {b : Nat → Int} {n q : Nat} {lo' hi' : Int32} {lo hi : Int} {P0 P1 P2 : PS} {R : List PS} {Q : Option AV → List PS → Prop} {K : PS → PS → PS → List PS → Prop} (elo : lo' = iI lo) (ehi : hi' = iI hi) (hlo : -100000 ≤ lo ∧ lo ≤ 100000) (hhi : -100000 ≤ hi ∧ hi ≤ 100000) (hq : q ≤ n) (ht : TxC false b n P1) (hk : TkC (tok false b n q) P1)
    (hy : ∀ P1' v q', numS false b n lo hi q = .ok (v, q') → q < q' → q' ≤ n → gI P1' 0 8 = iI v → TxC false b n P1' → TkC (tok false b n q') P1' → Fr tsI [7] [] [] P1 P1' → K P0 P1' P2 R) (hn : ∀ P1' e, numS false b n lo hi q = .error e → FaC e P1' → Fr tcI [7] [] [] P1 P1' → Q (some (vI (iI 0))) (P0 :: P1' :: P2 :: R)) :
    Tri 113 (d + 2) [vR 1 0 0, vI lo', vI hi'] (P0 :: P1 :: P2 :: R) (fun r3 h3 => hx3 h3 fun P0_3 P1_3 P2_3 R_3 => rI r3 fun y3 => (¬ y3 = 0 → K P0_3 P1_3 P2_3 R_3) ∧ (y3 = 0 → ((0 : Int32) = 0 ∨ (0 : Int32) = 1) ∧ Q (some (vI (0 : Int32))) (P0_3 :: P1_3 :: P2_3 :: R_3))) := by
  refine C_takeNumber elo ehi hlo hhi hq ht hk (fun P'' v q2 e2 _ _ l3 l4 tk _ k2 f2 => ?_) (fun P'' e e2 fa f2 => ?_)
  · dsimp only [hx3, rI]
    exact ⟨fun _ => hy P'' v q2 e2 l3 l4 tk (ht.fr f2 (by simp [tcI, tsI]) (by simp [tcI, tsI]) (by simp) (by simp)) k2 f2, fun c => absurd c (by decide)⟩
  · dsimp only [hx3, rI]
    exact ⟨fun c => absurd rfl c, fun _ => ⟨Or.inl rfl, hn P'' e e2 fa f2⟩⟩
theorem C_plm {d : Nat} {b : Nat → Int} {n q : Nat} {P0 P1 P2 : PS} {R : List PS} {Q : Option AV → List PS → Prop} {K : PS → PS → PS → List PS → Prop} (hq : q ≤ n) (ht : TxC false b n P1) (hk : TkC (tok false b n q) P1)
    (hy : ∀ P1' v q', plmS b n q = .ok (v, q') → q < q' → q' ≤ n → gI P1' 0 8 = iI v → TxC false b n P1' → TkC (tok false b n q') P1' → Fr tsI [7] [] [] P1 P1' → K P0 P1' P2 R) (hn : ∀ P1' e, plmS b n q = .error e → FaC e P1' → Fr tcI [7] [] [] P1 P1' → Q (some (vI (iI 0))) (P0 :: P1' :: P2 :: R)) :
    Tri 114 (d + 2) [vR 1 0 0, vI (99 : Int32)] (P0 :: P1 :: P2 :: R) (fun r3 h3 => hx3 h3 fun P0_3 P1_3 P2_3 R_3 => rI r3 fun y3 => (¬ y3 = 0 → K P0_3 P1_3 P2_3 R_3) ∧ (y3 = 0 → ((0 : Int32) = 0 ∨ (0 : Int32) = 1) ∧ Q (some (vI (0 : Int32))) (P0_3 :: P1_3 :: P2_3 :: R_3))) := by
  refine C_takeSigned rfl hq ht hk (fun P'' v q2 e2 _ _ l3 l4 tk k2 f2 => ?_) (fun P'' e e2 fa f2 => ?_)
  · dsimp only [hx3, rI]
    exact ⟨fun _ => hy P'' v q2 e2 l3 l4 tk (ht.fr f2 (by simp [tcI, tsI]) (by simp [tcI, tsI]) (by simp) (by simp)) k2 f2, fun c => absurd c (by decide)⟩
  · dsimp only [hx3, rI]
    exact ⟨fun c => absurd rfl c, fun _ => ⟨Or.inl rfl, hn P'' e e2 fa f2⟩⟩
/-- what a line that tells leaves behind -/
def ToldY (j : Nat) (b : Nat → Int) (n k : Nat) (f : Nat → Int) (q : Nat) (l : List SR) (P0 P1 P2 : PS) (R : List PS) (Q : Option AV → List PS → Prop) : Prop := ∀ f' q' P1' P2', toldS b n k f (tok false b n q).2.2.1 = .ok (f', q') → q < q' → q' ≤ n → TxC false b n P1' → TkC (tok false b n q') P1' → Fr tsI [7] [] [] P1 P1' → TdC j f' P2' → SsC j l P2' → FrB j P2 P2' → Q (some (vI (iI 1))) (P0 :: P1' :: P2' :: R)
def ToldN (j : Nat) (b : Nat → Int) (n k : Nat) (f : Nat → Int) (q : Nat) (P0 P1 P2 : PS) (R : List PS) (Q : Option AV → List PS → Prop) : Prop := ∀ e P1' P2', toldS b n k f (tok false b n q).2.2.1 = .error e → FaC e P1' → Fr tcI [7] [] [] P1 P1' → FrB j P2 P2' → Q (some (vI (iI 0))) (P0 :: P1' :: P2' :: R)
theorem C_nxt {d : Nat} {b : Nat → Int} {n q : Nat} {P0 P1 P2 : PS} {R : List PS} {K : PS → PS → PS → List PS → Prop} (hq : q ≤ n) (ht : TxC false b n P1) (hk : TkC (tok false b n q) P1) (h1 : (tok false b n q).1 = 1)
    (h : ∀ P1', q < (tok false b n q).2.2.1 → (tok false b n q).2.2.1 ≤ n → TxC false b n P1' → TkC (tok false b n (tok false b n q).2.2.1) P1' → Fr tsI [7] [] [] P1 P1' → K P0 P1' P2 R) : Tri 104 (d + 1) [vR 1 0 0] (P0 :: P1 :: P2 :: R) (fun r1 h1 => hx3 h1 fun P0_1 P1_1 P2_1 R_1 => rV r1 (K P0_1 P1_1 P2_1 R_1)) := by
  have hne : (tok false b n q).1 ≠ 3 := by rw [h1]; decide
  have hnx := tok_nx hq hne (by rw [h1]; decide)
  refine C_next ht (hk.2.2.2.2 hne) hnx.2 (fun P' f1 k1 => ?_)
  have f1' : Fr tsI [7] [] [] P1 P' := f1.mono (by simp [nxI, tcI, tsI]) (by simp) (by simp) (by simp)
  exact h P' hnx.1 hnx.2 (ht.fr f1' (by simp [tcI, tsI]) (by simp [tcI, tsI]) (by simp) (by simp)) k1 f1'
theorem C_readNoise {d j : Nat} {b : Nat → Int} {n q : Nat} {f : Nat → Int} {l : List SR} {P0 P1 P2 : PS} {R : List PS} {Q : Option AV → List PS → Prop} (hq : q ≤ n) (ht : TxC false b n P1) (hk : TkC (tok false b n q) P1) (h1 : (tok false b n q).1 = 1) (hT : TdC j f P2) (hS : SsC j l P2) (hy : ToldY j b n 3 f q l P0 P1 P2 R Q) (hn : ToldN j b n 3 f q P0 P1 P2 R Q) : Tri 19 (d + 3) [vR 10 0 0, vR 1 0 0, vR 2 j 0] (P0 :: P1 :: P2 :: R) Q := by
  refine enX1_readNoise ?_
  unfold fX1_readNoise_0
  refine C_nxt hq ht hk h1 (fun A g1 g2 t1 k1 f1 => ?_)
  refine C_num (lo := 0) (hi := 9) rfl rfl (by omega) (by omega) g2 t1 k1 (fun B v q2 e2 l1 l2 tk t2 k2 f2 => ?_) (fun B e e2 fa f2 => ?_)
  · rw [tk]
    exact ⟨Or.inr rfl, hy _ q2 B _ (by unfold toldS; rw [e2]; rfl) (by omega) l2 t2 k2 (f1.trs f2) (hT.up 3) (hS.sI (by decide)) FrB.rf.sI⟩
  · exact hn e B _ (by unfold toldS; rw [e2]; rfl) fa (f1.te f2) FrB.rf
theorem C_readOff {d j : Nat} {b : Nat → Int} {n q : Nat} {f : Nat → Int} {l : List SR} {P0 P1 P2 : PS} {R : List PS} {Q : Option AV → List PS → Prop} (hq : q ≤ n) (ht : TxC false b n P1) (hk : TkC (tok false b n q) P1) (h1 : (tok false b n q).1 = 1) (hT : TdC j f P2) (hS : SsC j l P2) (hy : ToldY j b n 4 f q l P0 P1 P2 R Q) (hn : ToldN j b n 4 f q P0 P1 P2 R Q) : Tri 20 (d + 3) [vR 10 0 0, vR 1 0 0, vR 2 j 0] (P0 :: P1 :: P2 :: R) Q := by
  refine enX1_readOff ?_
  unfold fX1_readOff_0
  refine C_nxt hq ht hk h1 (fun A g1 g2 t1 k1 f1 => ?_)
  refine C_num (lo := 0) (hi := 5) rfl rfl (by omega) (by omega) g2 t1 k1 (fun B v q2 e2 l1 l2 tk t2 k2 f2 => ?_) (fun B e e2 fa f2 => ?_)
  · rw [tk]
    exact ⟨Or.inr rfl, hy _ q2 B _ (by unfold toldS; rw [e2]; rfl) (by omega) l2 t2 k2 (f1.trs f2) (hT.up 4) (hS.sI (by decide)) FrB.rf.sI⟩
  · exact hn e B _ (by unfold toldS; rw [e2]; rfl) fa (f1.te f2) FrB.rf
theorem C_readBar {d j : Nat} {b : Nat → Int} {n q : Nat} {f : Nat → Int} {l : List SR} {P0 P1 P2 : PS} {R : List PS} {Q : Option AV → List PS → Prop} (hq : q ≤ n) (ht : TxC false b n P1) (hk : TkC (tok false b n q) P1) (h1 : (tok false b n q).1 = 1) (hT : TdC j f P2) (hS : SsC j l P2) (hy : ToldY j b n 5 f q l P0 P1 P2 R Q) (hn : ToldN j b n 5 f q P0 P1 P2 R Q) : Tri 21 (d + 3) [vR 10 0 0, vR 1 0 0, vR 2 j 0] (P0 :: P1 :: P2 :: R) Q := by
  refine enX1_readBar ?_
  unfold fX1_readBar_0
  refine C_nxt hq ht hk h1 (fun A g1 g2 t1 k1 f1 => ?_)
  refine C_num (lo := 1) (hi := 9999) rfl rfl (by omega) (by omega) g2 t1 k1 (fun B v q2 e2 l1 l2 tk t2 k2 f2 => ?_) (fun B e e2 fa f2 => ?_)
  · rw [tk]
    exact ⟨Or.inr rfl, hy _ q2 B _ (by unfold toldS; rw [e2]; rfl) (by omega) l2 t2 k2 (f1.trs f2) (hT.up 5) (hS.sI (by decide)) FrB.rf.sI⟩
  · exact hn e B _ (by unfold toldS; rw [e2]; rfl) fa (f1.te f2) FrB.rf
theorem C_readStep {d j : Nat} {b : Nat → Int} {n q : Nat} {f : Nat → Int} {l : List SR} {P0 P1 P2 : PS} {R : List PS} {Q : Option AV → List PS → Prop} (hq : q ≤ n) (ht : TxC false b n P1) (hk : TkC (tok false b n q) P1) (h1 : (tok false b n q).1 = 1) (hT : TdC j f P2) (hS : SsC j l P2) (hy : ToldY j b n 6 f q l P0 P1 P2 R Q) (hn : ToldN j b n 6 f q P0 P1 P2 R Q) : Tri 22 (d + 3) [vR 10 0 0, vR 1 0 0, vR 2 j 0] (P0 :: P1 :: P2 :: R) Q := by
  refine enX1_readStep ?_
  unfold fX1_readStep_0
  refine C_nxt hq ht hk h1 (fun A g1 g2 t1 k1 f1 => ?_)
  refine C_num (lo := 100) (hi := 999) rfl rfl (by omega) (by omega) g2 t1 k1 (fun B v q2 e2 l1 l2 tk t2 k2 f2 => ?_) (fun B e e2 fa f2 => ?_)
  · rw [tk]
    refine C_by (i := 11) (lo := 1) (hi := 6) w_needs (by omega) rfl rfl rfl rfl (by omega) (by omega) l2 t2 k2 (fun C w q3 e3 l3 l4 tk3 t3 k3 f3 => ?_) (fun C e e3 fa f3 => ?_)
    · rw [tk3]
      exact ⟨Or.inr rfl, hy _ q3 C _ (by unfold toldS; rw [e2]; show (byS b n w_needs 1 6 q2 >>= _) = _; rw [e3]; rfl) (by omega) l4 t3 k3 ((f1.trs f2).trs f3) ((hT.up 6).up 7) ((hS.sI (by decide)).sI (by decide)) FrB.rf.sI.sI⟩
    · exact hn e C _ (by unfold toldS; rw [e2]; show (byS b n w_needs 1 6 q2 >>= _) = _; rw [e3]; rfl) fa ((f1.trs f2).te f3) FrB.rf.sI
  · exact hn e B _ (by unfold toldS; rw [e2]; rfl) fa (f1.te f2) FrB.rf
theorem C_readLean {d j : Nat} {b : Nat → Int} {n q : Nat} {f : Nat → Int} {l : List SR} {P0 P1 P2 : PS} {R : List PS} {Q : Option AV → List PS → Prop} (hq : q ≤ n) (ht : TxC false b n P1) (hk : TkC (tok false b n q) P1) (h1 : (tok false b n q).1 = 1) (hT : TdC j f P2) (hS : SsC j l P2) (hy : ToldY j b n 8 f q l P0 P1 P2 R Q) (hn : ToldN j b n 8 f q P0 P1 P2 R Q) : Tri 23 (d + 3) [vR 10 0 0, vR 1 0 0, vR 2 j 0] (P0 :: P1 :: P2 :: R) Q := by
  refine enX1_readLean ?_
  unfold fX1_readLean_0
  refine C_nxt hq ht hk h1 (fun A g1 g2 t1 k1 f1 => ?_)
  refine C_plm g2 t1 k1 (fun B v q2 e2 l1 l2 tk t2 k2 f2 => ?_) (fun B e e2 fa f2 => ?_)
  · rw [tk]
    refine C_plm l2 t2 k2 (fun C w q3 e3 l3 l4 tk3 t3 k3 f3 => ?_) (fun C e e3 fa f3 => ?_)
    · rw [tk3]
      exact ⟨Or.inr rfl, hy _ q3 C _ (by unfold toldS; rw [e2]; show (plmS b n q2 >>= _) = _; rw [e3]; rfl) (by omega) l4 t3 k3 ((f1.trs f2).trs f3) ((hT.up 8).up 9) ((hS.sI (by decide)).sI (by decide)) FrB.rf.sI.sI⟩
    · exact hn e C _ (by unfold toldS; rw [e2]; show (plmS b n q2 >>= _) = _; rw [e3]; rfl) fa ((f1.trs f2).te f3) FrB.rf.sI
  · exact hn e B _ (by unfold toldS; rw [e2]; rfl) fa (f1.te f2) FrB.rf
theorem C_readRoom {d j : Nat} {b : Nat → Int} {n q : Nat} {f : Nat → Int} {l : List SR} {P0 P1 P2 : PS} {R : List PS} {Q : Option AV → List PS → Prop} (hq : q ≤ n) (ht : TxC false b n P1) (hk : TkC (tok false b n q) P1) (h1 : (tok false b n q).1 = 1) (hT : TdC j f P2) (hS : SsC j l P2) (hy : ToldY j b n 10 f q l P0 P1 P2 R Q) (hn : ToldN j b n 10 f q P0 P1 P2 R Q) : Tri 24 (d + 3) [vR 10 0 0, vR 1 0 0, vR 2 j 0] (P0 :: P1 :: P2 :: R) Q := by
  refine enX1_readRoom ?_
  unfold fX1_readRoom_0
  refine C_nxt hq ht hk h1 (fun A g1 g2 t1 k1 f1 => ?_)
  refine C_by (i := 0) (lo := 1) (hi := 99) w_star (by omega) rfl rfl rfl rfl (by omega) (by omega) g2 t1 k1 (fun B v q2 e2 l1 l2 tk t2 k2 f2 => ?_) (fun B e e2 fa f2 => ?_)
  · rw [tk]
    refine C_by (i := 14) (lo := 1) (hi := 99) w_pair (by omega) rfl rfl rfl rfl (by omega) (by omega) l2 t2 k2 (fun C w q3 e3 l3 l4 tk3 t3 k3 f3 => ?_) (fun C e e3 fa f3 => ?_)
    · rw [tk3]
      exact ⟨Or.inr rfl, hy _ q3 C _ (by unfold toldS; rw [e2]; show (byS b n w_pair 1 99 q2 >>= _) = _; rw [e3]; rfl) (by omega) l4 t3 k3 ((f1.trs f2).trs f3) ((hT.up 10).up 11) ((hS.sI (by decide)).sI (by decide)) FrB.rf.sI.sI⟩
    · exact hn e C _ (by unfold toldS; rw [e2]; show (byS b n w_pair 1 99 q2 >>= _) = _; rw [e3]; rfl) fa ((f1.trs f2).te f3) FrB.rf.sI
  · exact hn e B _ (by unfold toldS; rw [e2]; rfl) fa (f1.te f2) FrB.rf
theorem C_readEye {d j : Nat} {b : Nat → Int} {n q : Nat} {f : Nat → Int} {l : List SR} {P0 P1 P2 : PS} {R : List PS} {Q : Option AV → List PS → Prop} (hq : q ≤ n) (ht : TxC false b n P1) (hk : TkC (tok false b n q) P1) (h1 : (tok false b n q).1 = 1) (hT : TdC j f P2) (hS : SsC j l P2) (hy : ToldY j b n 0 f q l P0 P1 P2 R Q) (hn : ToldN j b n 0 f q P0 P1 P2 R Q) : Tri 18 (d + 3) [vR 10 0 0, vR 1 0 0, vR 2 j 0] (P0 :: P1 :: P2 :: R) Q := by
  refine enX1_readEye ?_
  unfold fX1_readEye_0
  refine C_nxt hq ht hk h1 (fun A g1 g2 t1 k1 f1 => ?_)
  refine C_by (i := 4) (lo := 4) (hi := 16) w_wide (by omega) rfl rfl rfl rfl (by omega) (by omega) g2 t1 k1 (fun B v q2 e2 l1 l2 tk t2 k2 f2 => ?_) (fun B e e2 fa f2 => ?_)
  · rw [tk]
    refine C_by (i := 5) (lo := 1) (hi := 9) w_unit (by omega) rfl rfl rfl rfl (by omega) (by omega) l2 t2 k2 (fun C w q3 e3 l3 l4 tk3 t3 k3 f3 => ?_) (fun C e e3 fa f3 => ?_)
    · rw [tk3]
      refine C_by (i := 6) (lo := 1) (hi := 999) w_far (by omega) rfl rfl rfl rfl (by omega) (by omega) l4 t3 k3 (fun D u q4 e4 l5 l6 tk4 t4 k4 f4 => ?_) (fun D e e4 fa f4 => ?_)
      · rw [tk4]
        exact ⟨Or.inr rfl, hy _ q4 D _ (by unfold toldS; rw [e2]; show (byS b n w_unit 1 9 q2 >>= _) = _; rw [e3]; show (byS b n w_far 1 999 q3 >>= _) = _; rw [e4]; rfl) (by omega) l6 t4 k4 (((f1.trs f2).trs f3).trs f4) (((hT.up 0).up 1).up 2) (((hS.sI (by decide)).sI (by decide)).sI (by decide)) FrB.rf.sI.sI.sI⟩
      · exact hn e D _ (by unfold toldS; rw [e2]; show (byS b n w_unit 1 9 q2 >>= _) = _; rw [e3]; show (byS b n w_far 1 999 q3 >>= _) = _; rw [e4]; rfl) fa (((f1.trs f2).trs f3).te f4) FrB.rf.sI.sI
    · exact hn e C _ (by unfold toldS; rw [e2]; show (byS b n w_unit 1 9 q2 >>= _) = _; rw [e3]; rfl) fa ((f1.trs f2).te f3) FrB.rf.sI
  · exact hn e B _ (by unfold toldS; rw [e2]; rfl) fa (f1.te f2) FrB.rf
