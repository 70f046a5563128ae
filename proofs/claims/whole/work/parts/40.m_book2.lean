/-! ===== the Model: a line of a BOOK ===== -/
def TdM (f : Nat → Int) (P : PS) : Prop := ∀ j, j < 12 → gA P 0 11 j = iI (f j)
theorem TdM.set {f : Nat → Int} {P : PS} {v : Int} (h : TdM f P) (k : Nat) : TdM (upI f k v) (sA P 0 11 k (iI v)) := by
  intro j hj
  rw [gA_sA, if_pos rfl, if_pos rfl]
  unfold upI
  by_cases e : j = k
  · rw [if_pos e, if_pos e]
  · rw [if_neg e, if_neg e]; exact h j hj
theorem TdM.fr {f : Nat → Int} {P P' : PS} {is ls as bs : List Nat} (h : TdM f P) (hf : Fr is ls as bs P P') (h1 : 11 ∉ as) : TdM f P' := fun j hj => by rw [hf.2.2.2.1 _ _ h1]; exact h j hj
theorem FaM.sA {e : PE} {P : PS} {a i : Nat} {v : Int32} (h : FaM e P) : FaM e (sA P 0 a i v) := h
theorem PrM.sA {r : Bool} {b : Nat → Int} {n q : Nat} {P : PS} {a i : Nat} {v : Int32} (h : PrM r b n q P) (ha : a ≠ 0) : PrM r b n q (sA P 0 a i v) := ⟨h.1.fr (Fr.sA (is := []) (ls := []) (as := [a]) (bs := []) Fr.rf (by simp)) (by simp) (by simp) (by simp [ha.symm]), h.2⟩
abbrev tdA : List Nat := [11, 19]
theorem M_told {d : Nat} {b : Nat → Int} {n q k : Nat} {f : Nat → Int} {P : PS} {R : List PS} {Q : Option AV → List PS → Prop} (hp : PrM false b n q P) (h3 : (tok false b n q).1 ≠ 3) (hk : k = 0 ∨ k = 3 ∨ k = 4 ∨ k = 5 ∨ k = 6 ∨ k = 8 ∨ k = 10) (ht : TdM f P)
    (hy : ∀ f' q' P', toldS b n k f (tok false b n q).2.2.1 = .ok (f', q') → Fr prI [9] tdA [] P P' → PrM false b n q' P' → TdM f' P' → (∀ j, gA P' 0 19 j = if j = k then 1 else gA P 0 19 j) → Q none (P' :: R))
    (hn : ∀ e P', toldS b n k f (tok false b n q).2.2.1 = .error e → Fr prI [9] tdA [] P P' → FaM e P' → Q none (P' :: R)) : Tri 191 (d + 4) [vR 0 0 0, vI (iI k)] (P :: R) Q := by
  refine enX12_readTold ?_
  unfold fX12_readTold_0
  have hkb : k < 12 := by omega
  refine ⟨?_, Or.inr rfl, ?_⟩
  · rw [iI_in (by omega) (by omega)]; omega
  rw [iI_cl (by omega) (by omega), show ((k : Int)).toNat = k by omega]
  have hp0 : PrM false b n q (sA P 0 19 k (1 : Int32)) := hp.sA (by decide)
  refine M_next hp0 h3 (fun P1 hf1 hp1 => ?_)
  dsimp only [hx1, rV]
  have hF1 : Fr prI [9] tdA [] P P1 := (Fr.sA (is := prI) (ls := [9]) (as := tdA) (bs := []) Fr.rf (by simp [tdA])).trs (hf1.mono (by simp [tkI, prI]) (by simp) (by simp) (by simp))
  have hH1 : ∀ j, gA P1 0 19 j = if j = k then 1 else gA P 0 19 j := fun j => by
    rw [hf1.2.2.2.1 _ _ (by simp), gA_sA, if_pos rfl, if_pos rfl]
  have ht1 : TdM f P1 := (fun j hj => by rw [hf1.2.2.2.1 _ _ (by simp), gA_sA, if_neg (by decide)]; exact ht j hj)
  generalize hq1 : (tok false b n q).2.2.1 = q1 at *
  -- one more frame
  have fr : ∀ {Pa Pb : PS}, Fr prI [9] tdA [] P Pa → Fr prI [9] [] [] Pa Pb → Fr prI [9] tdA [] P Pb := fun h1 h2 => h1.trs (h2.mono (fun _ h => h) (fun _ h => h) (by simp) (by simp))
  have frA : ∀ {Pa : PS} {i : Nat} {v : Int32}, Fr prI [9] tdA [] P Pa → Fr prI [9] tdA [] P (sA Pa 0 11 i v) := fun h1 => h1.sA (by simp [tdA])
  have hh : ∀ {Pa Pb : PS}, (∀ j, gA Pa 0 19 j = if j = k then 1 else gA P 0 19 j) → Fr prI [9] [] [] Pa Pb → ∀ j, gA Pb 0 19 j = if j = k then 1 else gA P 0 19 j := fun h1 h2 j => by rw [h2.2.2.2.1 _ _ (by simp)]; exact h1 j
  have hhA : ∀ {Pa : PS} {i : Nat} {v : Int32}, (∀ j, gA Pa 0 19 j = if j = k then 1 else gA P 0 19 j) → ∀ j, gA (sA Pa 0 11 i v) 0 19 j = if j = k then 1 else gA P 0 19 j := fun h1 j => h1 j
  have tf : ∀ {g : Nat → Int} {Pa Pb : PS}, TdM g Pa → Fr prI [9] [] [] Pa Pb → TdM g Pb := fun h1 h2 => h1.fr h2 (by simp)
  have v12 : ∀ m : Nat, m < 12 → vp_in (iI m) 12 := fun m hm => by rw [iI_in (by omega) (by omega)]; omega
  rcases hk with rfl | rfl | rfl | rfl | rfl | rfl | rfl
  · -- eye
    refine ⟨fun _ => ?_, fun c => absurd rfl c⟩
    refine M_by (w := w_wide) (lo := 4) (hi := 16) hp1 (by decide) lw_wide (by omega) (by omega) (fun v0 q2 P2 e2 f2 p2 => ?_) (fun x e P2 e2 f2 fa2 => ?_)
    · dsimp only [hx1, rI]
      refine ⟨v12 0 (by omega), ?_⟩
      refine M_by (w := w_unit) (lo := 1) (hi := 9) (p2.sA (by decide)) (by decide) lw_unit (by omega) (by omega) (fun v1 q3 P3 e3 f3 p3 => ?_) (fun x e P3 e3 f3 fa3 => ?_)
      · dsimp only [hx1, rI]
        refine ⟨v12 1 (by omega), ?_⟩
        refine M_by (w := w_far) (lo := 1) (hi := 999) (p3.sA (by decide)) (by decide) lw_far (by omega) (by omega) (fun v2 q4 P4 e4 f4 p4 => ?_) (fun x e P4 e4 f4 fa4 => ?_)
        · dsimp only [hx1, rI]
          refine ⟨v12 2 (by omega), hy _ q4 _ (by unfold toldS; rw [e2]; show (byS b n w_unit 1 9 q2 >>= _) = _; rw [e3]; show (byS b n w_far 1 999 q3 >>= _) = _; rw [e4]; rfl) (frA (fr (frA (fr (frA (fr hF1 f2)) f3)) f4)) (p4.sA (by decide)) ((tf ((tf ((tf ht1 f2).set 0) f3).set 1) f4).set 2) (hhA (hh (hhA (hh (hhA (hh hH1 f2)) f3)) f4))⟩
        · dsimp only [hx1, rI]
          exact ⟨v12 2 (by omega), hn e _ (by unfold toldS; rw [e2]; show (byS b n w_unit 1 9 q2 >>= _) = _; rw [e3]; show (byS b n w_far 1 999 q3 >>= _) = _; rw [e4]; rfl) (frA (fr (frA (fr (frA (fr hF1 f2)) f3)) f4)) fa4.sA⟩
      · dsimp only [hx1, rI]
        refine ⟨v12 1 (by omega), M_by_f fa3.sA ?_⟩
        dsimp only [hx1, rI]
        exact ⟨v12 2 (by omega), hn e _ (by unfold toldS; rw [e2]; show (byS b n w_unit 1 9 q2 >>= _) = _; rw [e3]; rfl) (frA (frA (fr (frA (fr hF1 f2)) f3))) fa3.sA.sA⟩
    · dsimp only [hx1, rI]
      refine ⟨v12 0 (by omega), M_by_f fa2.sA ?_⟩
      dsimp only [hx1, rI]
      refine ⟨v12 1 (by omega), M_by_f fa2.sA.sA ?_⟩
      dsimp only [hx1, rI]
      exact ⟨v12 2 (by omega), hn e _ (by unfold toldS; rw [e2]; rfl) (frA (frA (frA (fr hF1 f2)))) fa2.sA.sA.sA⟩
  · -- noise
    refine ⟨fun c => absurd c (by decide), fun _ => ⟨fun c => absurd c (by decide), fun _ => ⟨fun c => absurd c (by decide), fun _ => ⟨fun _ => ?_, fun c => absurd rfl c⟩⟩⟩⟩
    refine M_num (lo := 0) (hi := 9) hp1 (by omega) (by omega) (fun v q2 P2 e2 f2 p2 => ?_) (fun x e P2 e2 f2 fa2 => ?_)
    · dsimp only [hx1, rI]
      exact ⟨v12 3 (by omega), hy _ q2 _ (by unfold toldS; rw [e2]; rfl) (frA (fr hF1 f2)) (p2.sA (by decide)) ((tf ht1 f2).set 3) (hhA (hh hH1 f2))⟩
    · dsimp only [hx1, rI]
      exact ⟨v12 3 (by omega), hn e _ (by unfold toldS; rw [e2]; rfl) (frA (fr hF1 f2)) fa2.sA⟩
  · -- off
    refine ⟨fun c => absurd c (by decide), fun _ => ⟨fun c => absurd c (by decide), fun _ => ⟨fun c => absurd c (by decide), fun _ => ⟨fun c => absurd c (by decide), fun _ => ⟨fun _ => ?_, fun c => absurd rfl c⟩⟩⟩⟩⟩
    refine M_num (lo := 0) (hi := 5) hp1 (by omega) (by omega) (fun v q2 P2 e2 f2 p2 => ?_) (fun x e P2 e2 f2 fa2 => ?_)
    · dsimp only [hx1, rI]
      exact ⟨v12 4 (by omega), hy _ q2 _ (by unfold toldS; rw [e2]; rfl) (frA (fr hF1 f2)) (p2.sA (by decide)) ((tf ht1 f2).set 4) (hhA (hh hH1 f2))⟩
    · dsimp only [hx1, rI]
      exact ⟨v12 4 (by omega), hn e _ (by unfold toldS; rw [e2]; rfl) (frA (fr hF1 f2)) fa2.sA⟩
  · -- bar
    refine ⟨fun c => absurd c (by decide), fun _ => ⟨fun c => absurd c (by decide), fun _ => ⟨fun c => absurd c (by decide), fun _ => ⟨fun c => absurd c (by decide), fun _ => ⟨fun c => absurd c (by decide), fun _ => ⟨fun _ => ?_, fun c => absurd rfl c⟩⟩⟩⟩⟩⟩
    refine M_num (lo := 1) (hi := 9999) hp1 (by omega) (by omega) (fun v q2 P2 e2 f2 p2 => ?_) (fun x e P2 e2 f2 fa2 => ?_)
    · dsimp only [hx1, rI]
      exact ⟨v12 5 (by omega), hy _ q2 _ (by unfold toldS; rw [e2]; rfl) (frA (fr hF1 f2)) (p2.sA (by decide)) ((tf ht1 f2).set 5) (hhA (hh hH1 f2))⟩
    · dsimp only [hx1, rI]
      exact ⟨v12 5 (by omega), hn e _ (by unfold toldS; rw [e2]; rfl) (frA (fr hF1 f2)) fa2.sA⟩
  · -- step
    refine ⟨fun c => absurd c (by decide), fun _ => ⟨fun c => absurd c (by decide), fun _ => ⟨fun c => absurd c (by decide), fun _ => ⟨fun c => absurd c (by decide), fun _ => ⟨fun c => absurd c (by decide), fun _ => ⟨fun c => absurd c (by decide), fun _ => ⟨fun _ => ?_, fun c => absurd rfl c⟩⟩⟩⟩⟩⟩⟩
    refine M_num (lo := 100) (hi := 999) hp1 (by omega) (by omega) (fun v q2 P2 e2 f2 p2 => ?_) (fun x e P2 e2 f2 fa2 => ?_)
    · dsimp only [hx1, rI]
      refine ⟨v12 6 (by omega), ?_⟩
      refine M_by (w := w_needs) (lo := 1) (hi := 6) (p2.sA (by decide)) (by decide) lw_needs (by omega) (by omega) (fun v1 q3 P3 e3 f3 p3 => ?_) (fun x e P3 e3 f3 fa3 => ?_)
      · dsimp only [hx1, rI]
        exact ⟨v12 7 (by omega), hy _ q3 _ (by unfold toldS; rw [e2]; show (byS b n w_needs 1 6 q2 >>= _) = _; rw [e3]; rfl) (frA (fr (frA (fr hF1 f2)) f3)) (p3.sA (by decide)) ((tf ((tf ht1 f2).set 6) f3).set 7) (hhA (hh (hhA (hh hH1 f2)) f3))⟩
      · dsimp only [hx1, rI]
        exact ⟨v12 7 (by omega), hn e _ (by unfold toldS; rw [e2]; show (byS b n w_needs 1 6 q2 >>= _) = _; rw [e3]; rfl) (frA (fr (frA (fr hF1 f2)) f3)) fa3.sA⟩
    · dsimp only [hx1, rI]
      refine ⟨v12 6 (by omega), M_by_f fa2.sA ?_⟩
      dsimp only [hx1, rI]
      exact ⟨v12 7 (by omega), hn e _ (by unfold toldS; rw [e2]; rfl) (frA (frA (fr hF1 f2))) fa2.sA.sA⟩
  · -- lean
    refine ⟨fun c => absurd c (by decide), fun _ => ⟨fun c => absurd c (by decide), fun _ => ⟨fun c => absurd c (by decide), fun _ => ⟨fun c => absurd c (by decide), fun _ => ⟨fun c => absurd c (by decide), fun _ => ⟨fun c => absurd c (by decide), fun _ => ⟨fun c => absurd c (by decide), fun _ => ⟨fun c => absurd c (by decide), fun _ => ⟨fun _ => ?_, fun c => absurd rfl c⟩⟩⟩⟩⟩⟩⟩⟩⟩
    refine M_plm hp1 (fun v q2 P2 e2 f2 p2 => ?_) (fun x e P2 e2 f2 fa2 => ?_)
    · dsimp only [hx1, rI]
      refine ⟨v12 8 (by omega), ?_⟩
      refine M_plm (p2.sA (by decide)) (fun v1 q3 P3 e3 f3 p3 => ?_) (fun x e P3 e3 f3 fa3 => ?_)
      · dsimp only [hx1, rI]
        exact ⟨v12 9 (by omega), hy _ q3 _ (by unfold toldS; rw [e2]; show (plmS b n q2 >>= _) = _; rw [e3]; rfl) (frA (fr (frA (fr hF1 f2)) f3)) (p3.sA (by decide)) ((tf ((tf ht1 f2).set 8) f3).set 9) (hhA (hh (hhA (hh hH1 f2)) f3))⟩
      · dsimp only [hx1, rI]
        exact ⟨v12 9 (by omega), hn e _ (by unfold toldS; rw [e2]; show (plmS b n q2 >>= _) = _; rw [e3]; rfl) (frA (fr (frA (fr hF1 f2)) f3)) fa3.sA⟩
    · dsimp only [hx1, rI]
      refine ⟨v12 8 (by omega), M_plm_f fa2.sA ?_⟩
      dsimp only [hx1, rI]
      exact ⟨v12 9 (by omega), hn e _ (by unfold toldS; rw [e2]; rfl) (frA (frA (fr hF1 f2))) fa2.sA.sA⟩
  · -- room
    refine ⟨fun c => absurd c (by decide), fun _ => ⟨fun c => absurd c (by decide), fun _ => ⟨fun c => absurd c (by decide), fun _ => ⟨fun c => absurd c (by decide), fun _ => ⟨fun c => absurd c (by decide), fun _ => ⟨fun c => absurd c (by decide), fun _ => ⟨fun c => absurd c (by decide), fun _ => ⟨fun c => absurd c (by decide), fun _ => ⟨fun c => absurd c (by decide), fun _ => ?_⟩⟩⟩⟩⟩⟩⟩⟩⟩
    refine gX12_readTold_233 ?_
    unfold fX12_readTold_233
    refine M_by (w := w_star) (lo := 1) (hi := 99) hp1 (by decide) lw_star (by omega) (by omega) (fun v q2 P2 e2 f2 p2 => ?_) (fun x e P2 e2 f2 fa2 => ?_)
    · dsimp only [hx1, rI]
      refine ⟨v12 10 (by omega), ?_⟩
      refine M_by (w := w_pair) (lo := 1) (hi := 99) (p2.sA (by decide)) (by decide) lw_pair (by omega) (by omega) (fun v1 q3 P3 e3 f3 p3 => ?_) (fun x e P3 e3 f3 fa3 => ?_)
      · dsimp only [hx1, rI]
        exact ⟨v12 11 (by omega), hy _ q3 _ (by unfold toldS; rw [e2]; show (byS b n w_pair 1 99 q2 >>= _) = _; rw [e3]; rfl) (frA (fr (frA (fr hF1 f2)) f3)) (p3.sA (by decide)) ((tf ((tf ht1 f2).set 10) f3).set 11) (hhA (hh (hhA (hh hH1 f2)) f3))⟩
      · dsimp only [hx1, rI]
        exact ⟨v12 11 (by omega), hn e _ (by unfold toldS; rw [e2]; show (byS b n w_pair 1 99 q2 >>= _) = _; rw [e3]; rfl) (frA (fr (frA (fr hF1 f2)) f3)) fa3.sA⟩
    · dsimp only [hx1, rI]
      refine ⟨v12 10 (by omega), M_by_f fa2.sA ?_⟩
      dsimp only [hx1, rI]
      exact ⟨v12 11 (by omega), hn e _ (by unfold toldS; rw [e2]; rfl) (frA (frA (fr hF1 f2))) fa2.sA.sA⟩
