/-! ===== the class: what is taken of a text ===== -/
def FaC (e : PE) (P : PS) : Prop := gI P 0 2 = iI e.1 ∧ gI P 0 3 = iI e.2
abbrev tcI : List Nat := [2, 3, 4, 5, 6, 8, 9, 10]
abbrev tsI : List Nat := [4, 5, 6, 8, 9, 10]
theorem Fr.te {ls as bs : List Nat} {P P' P'' : PS} (h : Fr tsI ls as bs P P') (h' : Fr tcI ls as bs P' P'') : Fr tcI ls as bs P P'' := Fr.trs (h.mono (by simp [tcI, tsI]) (fun _ q => q) (fun _ q => q) (fun _ q => q)) h'
theorem OWN_ne : ∀ i, i < 27 → ∀ k, k < i → OWN.getD i [] ≠ OWN.getD k [] := by decide
theorem wid_iff {l : List Int} {i : Nat} (hi : i < 27) : wid l = i ↔ l = OWN.getD i [] := by
  have hlen : OWN.length = 27 := rfl
  constructor
  · intro h
    by_cases c : ∃ k, k < 27 ∧ l = OWN.getD k []
    · obtain ⟨k, hk, e⟩ := c
      have : wid l = k := by
        unfold wid
        rw [wix_at OWN 0 k (by omega) (fun j hj e' => OWN_ne k hk j hj (by rw [← e, ← e'])) e]; simp
      have : i = k := by omega
      subst this; exact e
    · have : wid l = -1 := wix_no OWN 0 (fun k hk e => c ⟨k, by omega, e⟩)
      omega
  · intro e
    unfold wid
    rw [wix_at OWN 0 i (by omega) (fun j hj e' => OWN_ne i hi j hj (by rw [← e, ← e'])) e]; simp
theorem wid_bd (l : List Int) : -1 ≤ wid l ∧ wid l < 27 := by
  have hlen : OWN.length = 27 := rfl
  by_cases c : ∃ k, k < 27 ∧ l = OWN.getD k []
  · obtain ⟨k, hk, e⟩ := c
    have := (wid_iff hk).mpr e
    omega
  · have : wid l = -1 := wix_no OWN 0 (fun k hk e => c ⟨k, by omega, e⟩)
    omega
theorem kC_bd (k : Nat) : 0 ≤ kC k ∧ kC k ≤ 4 := by unfold kC; split <;> (try split) <;> (try split) <;> (try split) <;> omega
theorem kC_eq {k : Nat} (hk : k ≤ 4) : (kC k = 2 ↔ k = 1) ∧ (kC k = 3 ↔ k = 2) ∧ (kC k = 1 ↔ k = 3) ∧ (kC k = 4 ↔ k = 4) ∧ (kC k = 0 ↔ k = 0) := by
  revert k; decide
/-- the TOKEN looked at -/
theorem TkC.k {r : Bool} {b : Nat → Int} {n q : Nat} {P : PS} (hq : q ≤ n) (h : TkC (tok r b n q) P) : (gI P 0 4 = (2 : Int32) ↔ (tok r b n q).1 = 1) ∧ (gI P 0 4 = (3 : Int32) ↔ (tok r b n q).1 = 2) ∧ (gI P 0 4 = (1 : Int32) ↔ (tok r b n q).1 = 3) ∧ (gI P 0 4 = (4 : Int32) ↔ (tok r b n q).1 = 4) ∧ (gI P 0 4 = (0 : Int32) ↔ (tok r b n q).1 = 0) := by
  have ho := (tok_ok r b hq).1
  have e := kC_eq ho
  have hb := kC_bd (tok r b n q).1
  rw [h.1, show (2 : Int32) = iI 2 from rfl, show (3 : Int32) = iI 3 from rfl, show (1 : Int32) = iI 1 from rfl, show (4 : Int32) = iI 4 from rfl, show (0 : Int32) = iI 0 from rfl, iI_eq (by omega) (by omega) (by omega) (by omega), iI_eq (by omega) (by omega) (by omega) (by omega), iI_eq (by omega) (by omega) (by omega) (by omega), iI_eq (by omega) (by omega) (by omega) (by omega), iI_eq (by omega) (by omega) (by omega) (by omega)]
  exact e
theorem C_refuse {d : Nat} {a p : Int32} {e : PE} {P0 P : PS} {R : List PS} {Q : Option AV → List PS → Prop} (ha : a = iI e.1) (hp : p = iI e.2) (h : ∀ P', FaC e P' → Fr [2, 3] [] [] [] P P' → Q (some (vI (iI 0))) (P0 :: P' :: R)) : Tri 102 d [vR 1 0 0, vI a, vI p] (P0 :: P :: R) Q := by
  refine enX9_refuse ?_
  unfold fX9_refuse_0
  subst ha hp
  exact ⟨Or.inl rfl, h _ ⟨rfl, rfl⟩ ((Fr.rf.sI (by simp)).sI (by simp))⟩
theorem C_refuseHere {d : Nat} {r : Bool} {b : Nat → Int} {n q : Nat} {P0 P : PS} {R : List PS} {Q : Option AV → List PS → Prop} (hq : q ≤ n) (hk : TkC (tok r b n q) P) (h : ∀ P', FaC (badF (tok r b n q), ((tok r b n q).2.1 : Nat)) P' → Fr [2, 3] [] [] [] P P' → Q (some (vI (iI 0))) (P0 :: P' :: R)) : Tri 103 (d + 1) [vR 1 0 0] (P0 :: P :: R) Q := by
  refine enX9_refuseHere ?_
  unfold fX9_refuseHere_0
  rw [(hk.k hq).2.2.1]
  refine ⟨fun c => C_refuse (e := (badF (tok r b n q), ((tok r b n q).2.1 : Nat))) ?_ hk.2.1 (fun P' f1 f2 => ?_), fun c => C_refuse (e := (badF (tok r b n q), ((tok r b n q).2.1 : Nat))) ?_ hk.2.1 (fun P' f1 f2 => ?_)⟩
  · unfold badF; rw [if_neg c]; rfl
  · exact ⟨Or.inl rfl, h P' f1 f2⟩
  · unfold badF; rw [if_pos c]; rfl
  · exact ⟨Or.inl rfl, h P' f1 f2⟩
theorem C_isAtWord {d i : Nat} {r : Bool} {b : Nat → Int} {n q : Nat} {x : Int32} {P0 P : PS} {R : List PS} {Q : Option AV → List PS → Prop} (hi : i < 27) (hx : x = iI i) (hq : q ≤ n) (hk : TkC (tok r b n q) P) (hy : (tok r b n q).1 = 1 → (tok r b n q).2.2.2.2 = OWN.getD i [] → Q (some (vI (iI 1))) (P0 :: P :: R)) (hn : ¬ ((tok r b n q).1 = 1 ∧ (tok r b n q).2.2.2.2 = OWN.getD i []) → Q (some (vI (iI 0))) (P0 :: P :: R)) : Tri 109 d [vR 1 0 0, vI x] (P0 :: P :: R) Q := by
  subst hx
  refine enX9_isAtWord ?_
  unfold fX9_isAtWord_0
  rw [(hk.k hq).1]
  refine ⟨fun c => ⟨Or.inl rfl, hn (fun g => c g.1)⟩, fun c => ?_⟩
  have hw := wid_bd (tok r b n q).2.2.2.2
  rw [(hk.2.2.2.1 c).1, iI_eq (by omega) (by omega) (by omega) (by omega), wid_iff hi]
  exact ⟨fun g => ⟨Or.inl rfl, hn (fun g' => g g'.2)⟩, fun g => ⟨Or.inr rfl, hy c g⟩⟩
theorem sgc_bd {c : Int} (h : sgc c) : 40 ≤ c ∧ c ≤ 62 := by unfold sgc at h; omega
theorem C_isAtSign {d : Nat} {s : Int} {r : Bool} {b : Nat → Int} {n q : Nat} {x : Int32} {P0 P : PS} {R : List PS} {Q : Option AV → List PS → Prop} (hs0 : 0 ≤ s) (hs1 : s < 128) (hx : x = iI s) (hq : q ≤ n) (hk : TkC (tok r b n q) P) (hy : (tok r b n q).1 = 4 → (tok r b n q).2.2.2.1 = s → Q (some (vI (iI 1))) (P0 :: P :: R)) (hn : ¬ ((tok r b n q).1 = 4 ∧ (tok r b n q).2.2.2.1 = s) → Q (some (vI (iI 0))) (P0 :: P :: R)) : Tri 110 d [vR 1 0 0, vI x] (P0 :: P :: R) Q := by
  subst hx
  refine enX9_isAtSign ?_
  unfold fX9_isAtSign_0
  rw [(hk.k hq).2.2.2.1]
  refine ⟨fun c => ⟨Or.inl rfl, hn (fun g => c g.1)⟩, fun c => ?_⟩
  have hw := sgc_bd ((tok_ok r b hq).2.2.2.2.2.2 c)
  rw [hk.2.2.1 (Or.inr c), iI_eq (by omega) (by omega) (by omega) (by omega)]
  exact ⟨fun g => ⟨Or.inl rfl, hn (fun g' => g g'.2)⟩, fun g => ⟨Or.inr rfl, hy c g⟩⟩
theorem C_takeWord {d i : Nat} {r : Bool} {b : Nat → Int} {n q : Nat} {x : Int32} {P0 P : PS} {R : List PS} {Q : Option AV → List PS → Prop} (w : List Int) (hi : i < 27) (hw : OWN.getD i [] = w) (hx : x = iI i) (hq : q ≤ n) (ht : TxC r b n P) (hk : TkC (tok r b n q) P)
    (hy : ∀ P' q', wantS r b n w q = .ok q' → q < q' → q' ≤ n → TkC (tok r b n q') P' → Fr tsI [7] [] [] P P' → Q (some (vI (iI 1))) (P0 :: P' :: R)) (hn : ∀ P' e, wantS r b n w q = .error e → FaC e P' → Fr tcI [7] [] [] P P' → Q (some (vI (iI 0))) (P0 :: P' :: R)) : Tri 111 (d + 2) [vR 1 0 0, vI x] (P0 :: P :: R) Q := by
  subst hw
  refine enX9_takeWord ?_
  unfold fX9_takeWord_0
  have ho := tok_ok r b hq
  refine C_isAtWord hi hx hq hk (fun c1 c2 => ?_) (fun c => ?_)
  · dsimp only [hx2, rI]
    refine ⟨fun _ => ?_, fun c => absurd c (by decide)⟩
    have hne : (tok r b n q).1 ≠ 3 := by rw [c1]; decide
    have ho1 := ho.2.2.2.1 hne
    refine C_next ht (hk.2.2.2.2 hne) ho1.1 (fun P' f1 f2 => ?_)
    refine ⟨Or.inr rfl, hy P' _ (if_pos ⟨c1, c2⟩) ?_ ho1.1 f2 (f1.mono (by simp [nxI, tcI, tsI]) (by simp) (by simp) (by simp))⟩
    have := ho1.2 (by rw [c1]; decide)
    have := ho.2.1
    omega
  · dsimp only [hx2, rI]
    refine ⟨fun c => absurd rfl c, fun _ => ?_⟩
    refine C_refuseHere hq hk (fun P' f1 f2 => ?_)
    exact ⟨Or.inl rfl, hn P' _ (if_neg c) f1 (f2.mono (by simp [tcI, tsI]) (by simp) (by simp) (by simp))⟩
theorem C_takeSign {d : Nat} {r : Bool} {b : Nat → Int} {n q : Nat} {x : Int32} {P0 P : PS} {R : List PS} {Q : Option AV → List PS → Prop} (s : Int) (hs0 : 0 ≤ s) (hs1 : s < 128) (hx : x = iI s) (hq : q ≤ n) (ht : TxC r b n P) (hk : TkC (tok r b n q) P)
    (hy : ∀ P' q', sgnS r b n s q = .ok q' → q < q' → q' ≤ n → TkC (tok r b n q') P' → Fr tsI [7] [] [] P P' → Q (some (vI (iI 1))) (P0 :: P' :: R)) (hn : ∀ P' e, sgnS r b n s q = .error e → FaC e P' → Fr tcI [7] [] [] P P' → Q (some (vI (iI 0))) (P0 :: P' :: R)) : Tri 112 (d + 2) [vR 1 0 0, vI x] (P0 :: P :: R) Q := by
  refine enX9_takeSign ?_
  unfold fX9_takeSign_0
  have ho := tok_ok r b hq
  refine C_isAtSign hs0 hs1 hx hq hk (fun c1 c2 => ?_) (fun c => ?_)
  · dsimp only [hx2, rI]
    refine ⟨fun _ => ?_, fun c => absurd c (by decide)⟩
    have hne : (tok r b n q).1 ≠ 3 := by rw [c1]; decide
    have ho1 := ho.2.2.2.1 hne
    refine C_next ht (hk.2.2.2.2 hne) ho1.1 (fun P' f1 f2 => ?_)
    refine ⟨Or.inr rfl, hy P' _ (if_pos ⟨c1, c2⟩) ?_ ho1.1 f2 (f1.mono (by simp [nxI, tcI, tsI]) (by simp) (by simp) (by simp))⟩
    have := ho1.2 (by rw [c1]; decide)
    have := ho.2.1
    omega
  · dsimp only [hx2, rI]
    refine ⟨fun c => absurd rfl c, fun _ => ?_⟩
    refine C_refuseHere hq hk (fun P' f1 f2 => ?_)
    exact ⟨Or.inl rfl, hn P' _ (if_neg c) f1 (f2.mono (by simp [tcI, tsI]) (by simp) (by simp) (by simp))⟩
theorem C_takeNumber {d : Nat} {r : Bool} {b : Nat → Int} {n q : Nat} {lo hi : Int} {x y : Int32} {P0 P : PS} {R : List PS} {Q : Option AV → List PS → Prop} (hx : x = iI lo) (hy' : y = iI hi) (hlo : -100000 ≤ lo ∧ lo ≤ 100000) (hhi : -100000 ≤ hi ∧ hi ≤ 100000) (hq : q ≤ n) (ht : TxC r b n P) (hk : TkC (tok r b n q) P)
    (hy : ∀ P' v q', numS r b n lo hi q = .ok (v, q') → lo ≤ v → v ≤ hi → q < q' → q' ≤ n → gI P' 0 8 = iI v → gI P' 0 9 = iI (tok r b n q).2.1 → TkC (tok r b n q') P' → Fr tsI [7] [] [] P P' → Q (some (vI (iI 1))) (P0 :: P' :: R)) (hn : ∀ P' e, numS r b n lo hi q = .error e → FaC e P' → Fr tcI [7] [] [] P P' → Q (some (vI (iI 0))) (P0 :: P' :: R)) : Tri 113 (d + 2) [vR 1 0 0, vI x, vI y] (P0 :: P :: R) Q := by
  subst hx hy'
  refine enX9_takeNumber ?_
  unfold fX9_takeNumber_0
  have ho := tok_ok r b hq
  rw [(hk.k hq).2.1]
  refine ⟨fun c => ?_, fun c => C_refuseHere hq hk (fun P' f1 f2 => ⟨Or.inl rfl, hn P' _ ?_ f1 (f2.mono (by simp [tcI, tsI]) (by simp) (by simp) (by simp))⟩)⟩
  · have hv := ho.2.2.2.2.2.1 c
    have hne : (tok r b n q).1 ≠ 3 := by rw [c]; decide
    have ho1 := ho.2.2.2.1 hne
    have herr : ((tok r b n q).2.2.2.1 < lo ∨ hi < (tok r b n q).2.2.2.1) → numS r b n lo hi q = .error (4, ((tok r b n q).2.1 : Nat)) := fun g => by unfold numS; rw [if_pos c, if_pos g]
    rw [hk.2.2.1 (Or.inl c), iI_lt (by omega) (by omega) (by omega) (by omega), iI_le (by omega) (by omega) (by omega) (by omega)]
    refine ⟨fun g => C_refuse (e := (4, ((tok r b n q).2.1 : Nat))) rfl hk.2.1 (fun P' f1 f2 => ⟨Or.inl rfl, hn P' _ (herr (Or.inl g)) f1 (f2.mono (by simp [tcI, tsI]) (by simp) (by simp) (by simp))⟩), fun g => ⟨fun g1 => ?_, fun g1 => C_refuse (e := (4, ((tok r b n q).2.1 : Nat))) rfl hk.2.1 (fun P' f1 f2 => ⟨Or.inl rfl, hn P' _ (herr (Or.inr (by omega))) f1 (f2.mono (by simp [tcI, tsI]) (by simp) (by simp) (by simp))⟩)⟩⟩
    have hf0 : Fr tsI [7] [] [] P (sI (sI P 0 8 (iI (tok r b n q).2.2.2.1)) 0 9 (gI P 0 5)) := (Fr.rf.sI (by simp [tcI, tsI])).sI (by simp [tcI, tsI])
    refine C_next (ht.fr hf0 (by simp [tcI, tsI]) (by simp [tcI, tsI]) (by simp) (by simp)) (hk.2.2.2.2 hne) ho1.1 (fun P' f1 f2 => ?_)
    refine ⟨Or.inr rfl, hy P' (tok r b n q).2.2.2.1 (tok r b n q).2.2.1 ?_ (by omega) (by omega) ?_ ho1.1 ?_ ?_ f2 (hf0.trs (f1.mono (by simp [nxI, tcI, tsI]) (by simp) (by simp) (by simp)))⟩
    · unfold numS; rw [if_pos c, if_neg (by omega)]
    · have := ho1.2 (by rw [c]; decide)
      have := ho.2.1
      omega
    · rw [f1.2.1 _ (by simp [nxI])]; rfl
    · rw [f1.2.1 _ (by simp [nxI])]; exact hk.2.1
  · unfold numS; rw [if_neg c]
theorem C_takeSigned {d : Nat} {b : Nat → Int} {n q : Nat} {x : Int32} {P0 P : PS} {R : List PS} {Q : Option AV → List PS → Prop} (hx : x = iI 99) (hq : q ≤ n) (ht : TxC false b n P) (hk : TkC (tok false b n q) P)
    (hy : ∀ P' v q', plmS b n q = .ok (v, q') → -99 ≤ v → v ≤ 99 → q < q' → q' ≤ n → gI P' 0 8 = iI v → TkC (tok false b n q') P' → Fr tsI [7] [] [] P P' → Q (some (vI (iI 1))) (P0 :: P' :: R)) (hn : ∀ P' e, plmS b n q = .error e → FaC e P' → Fr tcI [7] [] [] P P' → Q (some (vI (iI 0))) (P0 :: P' :: R)) : Tri 114 (d + 2) [vR 1 0 0, vI x] (P0 :: P :: R) Q := by
  subst hx
  refine enX9_takeSigned ?_
  unfold fX9_takeSigned_0
  have ho := tok_ok false b hq
  have fin : ∀ (m : Bool) (q1 : Nat) (P1 : PS), (m = true ↔ ((tok false b n q).1 = 4 ∧ (tok false b n q).2.2.2.1 = 45)) → q1 = (if m = true then (tok false b n q).2.2.1 else q) → q ≤ q1 → q1 ≤ n → TkC (tok false b n q1) P1 → Fr tsI [7] [] [] P P1 →
      (gI P1 0 4 = (3 : Int32) → (gI P1 0 6 ≤ iI 99 → Tri 104 (d + 1) [vR 1 0 0] (P0 :: (sI P1 0 8 (if m = true then -(gI P1 0 6) else gI P1 0 6)) :: R) (fun r2 h2 => hx2 h2 fun P0_2 P1_2 R_2 => rV r2 (((1 : Int32) = 0 ∨ (1 : Int32) = 1) ∧ Q (some (vI (1 : Int32))) (P0_2 :: P1_2 :: R_2)))) ∧ (¬ gI P1 0 6 ≤ iI 99 → Tri 102 (d + 1) [vR 1 0 0, vI (4 : Int32), vI (gI P 0 5)] (P0 :: P1 :: R) (fun r4 h4 => hx2 h4 fun P0_4 P1_4 R_4 => rI r4 fun y4 => (y4 = 0 ∨ y4 = 1) ∧ Q (some (vI y4)) (P0_4 :: P1_4 :: R_4)))) ∧ (¬ gI P1 0 4 = (3 : Int32) → Tri 103 (d + 1) [vR 1 0 0] (P0 :: P1 :: R) (fun r5 h5 => hx2 h5 fun P0_5 P1_5 R_5 => rI r5 fun y5 => (y5 = 0 ∨ y5 = 1) ∧ Q (some (vI y5)) (P0_5 :: P1_5 :: R_5))) := by
    intro m q1 P1 hm hq1 hle hle2 hk1 hf1
    have ho1 := tok_ok false b hle2
    have hpl : plmS b n q = (if (tok false b n q1).1 = 2 then (if 99 < (tok false b n q1).2.2.2.1 then .error (4, ((tok false b n q).2.1 : Nat)) else .ok (if m = true then -(tok false b n q1).2.2.2.1 else (tok false b n q1).2.2.2.1, (tok false b n q1).2.2.1)) else .error (badF (tok false b n q1), ((tok false b n q1).2.1 : Nat))) := by
      unfold plmS
      simp only [← hm, ← hq1]
    rw [(hk1.k hle2).2.1]
    refine ⟨fun c => ?_, fun c => C_refuseHere hle2 hk1 (fun P' f1 f2 => ⟨Or.inl rfl, hn P' _ (by rw [hpl, if_neg c]) f1 (hf1.te (f2.mono (by simp [tcI, tsI]) (by simp) (by simp) (by simp)))⟩)⟩
    have hv := ho1.2.2.2.2.2.1 c
    have hne : (tok false b n q1).1 ≠ 3 := by rw [c]; decide
    have ho2 := ho1.2.2.2.1 hne
    rw [hk1.2.2.1 (Or.inl c), iI_le (by omega) (by omega) (by omega) (by omega)]
    refine ⟨fun g => ?_, fun g => C_refuse (e := (4, ((tok false b n q).2.1 : Nat))) rfl hk.2.1 (fun P' f1 f2 => ⟨Or.inl rfl, hn P' _ (by rw [hpl, if_pos c, if_pos (by omega)]) f1 (hf1.te (f2.mono (by simp [tcI, tsI]) (by simp) (by simp) (by simp)))⟩)⟩
    have hf0 : ∀ v, Fr tsI [7] [] [] P (sI P1 0 8 v) := fun v => hf1.sI (by simp [tcI, tsI])
    refine C_next (ht.fr (hf0 _) (by simp [tcI, tsI]) (by simp [tcI, tsI]) (by simp) (by simp)) (hk1.2.2.2.2 hne) ho2.1 (fun P' f1 f2 => ?_)
    refine ⟨Or.inr rfl, hy P' (if m = true then -(tok false b n q1).2.2.2.1 else (tok false b n q1).2.2.2.1) (tok false b n q1).2.2.1 ?_ ?_ ?_ ?_ ho2.1 ?_ f2 ((hf0 _).trs (f1.mono (by simp [nxI, tcI, tsI]) (by simp) (by simp) (by simp)))⟩
    · rw [hpl, if_pos c, if_neg (by omega)]
    · split <;> omega
    · split <;> omega
    · have := ho2.2 (by rw [c]; decide)
      have := ho1.2.1
      omega
    · rw [f1.2.1 _ (by simp [nxI])]
      show (if m = true then _ else _) = _
      cases m
      · rfl
      · exact iI_neg _
  refine C_isAtSign (s := 45) (by omega) (by omega) rfl hq hk (fun c1 c2 => ?_) (fun c => ?_)
  · dsimp only [hx2, rI]
    refine ⟨fun c => absurd c (by decide), fun _ => ?_⟩
    have hne : (tok false b n q).1 ≠ 3 := by rw [c1]; decide
    have ho1 := ho.2.2.2.1 hne
    have h2 := ho1.2 (by rw [c1]; decide)
    have h3 := ho.2.1
    refine C_next ht (hk.2.2.2.2 hne) ho1.1 (fun P1 f1 f2 => ?_)
    dsimp only [hx2, rV]
    have F := fin true (tok false b n q).2.2.1 P1 ⟨fun _ => ⟨c1, c2⟩, fun _ => rfl⟩ rfl (by omega) ho1.1 f2 (f1.mono (by simp [nxI, tcI, tsI]) (by simp) (by simp) (by simp))
    exact ⟨fun g => ⟨fun g1 => ⟨fun c => absurd c (by decide), fun _ => (F.1 g).1 g1⟩, (F.1 g).2⟩, F.2⟩
  · dsimp only [hx2, rI]
    refine ⟨fun _ => ?_, fun c => absurd rfl c⟩
    have F := fin false q P ⟨fun g => absurd g (by decide), fun g => absurd g c⟩ rfl (by omega) hq hk Fr.rf
    exact ⟨fun g => ⟨fun g1 => ⟨fun _ => (F.1 g).1 g1, fun c => absurd rfl c⟩, (F.1 g).2⟩, F.2⟩
theorem C_open {d : Nat} {r : Bool} {b : Nat → Int} {n : Nat} {x : Int32} {P0 P : PS} {R : List PS} {Q : Option AV → List PS → Prop} (hx : x = if r then iI 1 else iI 0) (hl : gI P 0 1 = iI n) (hn : n ≤ 1500) (hb : ∀ i, i < n → gA P 0 0 i = iI (sb (b i)) ∧ 0 ≤ b i ∧ b i < 256) (ho : OwC P)
    (h : ∀ P', TxC r b n P' → TkC (tok r b n 0) P' → FaC (0, -1) P' → Fr [11, 10, 2, 3, 4, 5, 6] [7] [] [] P P' → Q none (P0 :: P' :: R)) : Tri 101 (d + 2) [vR 1 0 0, vI x] (P0 :: P :: R) Q := by
  subst hx
  refine enX9_open ?_
  unfold fX9_open_0
  refine ⟨by cases r <;> simp <;> decide, ?_⟩
  have ht : TxC r b n (sI (sI (sI (sI P 0 11 (if r then iI 1 else iI 0)) 0 10 (0 : Int32)) 0 2 (0 : Int32)) 0 3 (-1 : Int32)) := ⟨rfl, hl, hn, hb, ho⟩
  refine C_next (q := 0) ht rfl (by omega) (fun P' f1 f2 => h P' (ht.fr f1 (by simp [nxI]) (by simp [nxI]) (by simp) (by simp)) f2 ⟨?_, ?_⟩ ?_)
  · rw [f1.2.1 _ (by simp [nxI])]; rfl
  · rw [f1.2.1 _ (by simp [nxI])]; rfl
  · exact Fr.tr (is1 := [11, 10, 2, 3]) (ls1 := []) (as1 := []) (bs1 := []) ((((Fr.rf.sI (by simp)).sI (by simp)).sI (by simp)).sI (by simp)) f1 (by simp) (by simp) (by simp) (by simp) (by simp [nxI]) (by simp) (by simp) (by simp)
