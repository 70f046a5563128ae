theorem M_st70f {d : Nat} {e : PE} {P : PS} {R : List PS} {Q : Option AV → List PS → Prop} (hf : FaM e P) (h : Q none (P :: R)) : cX12_readStar_70 (0, 0, 0, 0) d P R Q := by
  refine gX12_readStar_70 ?_
  unfold fX12_readStar_70
  exact ⟨fun c => absurd c hf.nle, fun _ => h⟩
theorem M_readStar {d : Nat} {b : Nat → Int} {n q : Nat} {l : List SR} {P : PS} {R : List PS} {Q : Option AV → List PS → Prop} (hp : PrM false b n q P) (h3 : (tok false b n q).1 ≠ 3) (hs : SsM l P) (h32 : l.length < 32)
    (hy : ∀ l' q' P', starS b n l (tok false b n q).2.2.1 = .ok (l', q') → Fr stI [9] stA [20] P P' → PrM false b n q' P' → SsM l' P' → Q none (P' :: R))
    (hn : ∀ e P', starS b n l (tok false b n q).2.2.1 = .error e → Fr stI [9] stA [20] P P' → FaM e P' → Q none (P' :: R)) : Tri 188 (d + 3) [vR 0 0 0] (P :: R) Q := by
  refine enX12_readStar ?_
  unfold fX12_readStar_0
  refine M_next hp h3 (fun P1 hf1 hp1 => ?_)
  dsimp only [hx1, rV]
  have hF1 : Fr stI [9] stA [20] P P1 := hf1.mono (by simp [tkI, stI]) (by simp) (by simp) (by simp)
  have hs1 : SsM l P1 := hs.fr hf1 (by simp [tkI]) (by simp) (by simp) (by simp) (by simp)
  generalize (tok false b n q).2.2.1 = q1 at *
  have fr : ∀ {Pa Pb : PS}, Fr stI [9] stA [20] P Pa → Fr prI [9] [] [] Pa Pb → Fr stI [9] stA [20] P Pb := fun h1 h2 => h1.trs (h2.mono (by simp [prI, stI]) (by simp) (by simp) (by simp))
  have fr2 : ∀ {Pa Pb : PS}, Fr stI [9] stA [20] P Pa → Fr [2, 3] [] [] [] Pa Pb → Fr stI [9] stA [20] P Pb := fun h1 h2 => h1.trs (h2.mono (by simp [stI]) (by simp) (by simp) (by simp))
  refine M_st8 (L := l.length) hs1.1 hs1.2.1 (fun x1 hx1' => ?_) l.length 0 0 (by omega) (Or.inr ⟨rfl, fun i hi => by omega⟩)
  refine gX12_readStar_8 ?_
  unfold fX12_readStar_8
  rw [hs1.1]
  refine ⟨fun _ => M_isName hp1 (fun hname => ?_) (fun hname => ?_), fun c => absurd (Int32.le_refl _) c⟩
  · dsimp only [hx1, rI]
    have hok := (tok_ok false b hp1.2.2.2.1).2.2.2.2.1 hname.1
    have hw := hp1.2.1.2.2.2.1 hname.1
    have heq : ∀ i, i < l.length → (gB P1 0 20 i = gL P1 0 9 ↔ (nthS l i).1 = (tok false b n q1).2.2.2.2) := fun i hi => by
      have hst := hs1.2.2.1 _ (nthS_mem hi)
      rw [(hs1.2.2.2 i hi).1, hw, p256_eq hst.1.1 hst.1.2 hok.1 hok.2]
    refine ⟨fun _ => ⟨fun c => ?_, fun c => ?_⟩, fun c => absurd c (by decide)⟩
    · -- no such name yet
      have hnone : nameS l (tok false b n q1).2.2.2.2 = false := by
        rcases hx1' with ⟨e, _⟩ | ⟨_, hx⟩
        · rw [e] at c; exact absurd c (by decide)
        · unfold nameS
          cases hb : l.any _ with
          | false => rfl
          | true =>
            obtain ⟨i, hi, hq⟩ := any_nth.mp hb
            exact absurd ((heq i hi).mpr (of_decide_eq_true hq)) (hx i hi)
      have hst0 : ∀ X : Except PE (List SR × Nat), (wantS false b n w_at (tok false b n q1).2.2.1 >>= fun q3 => numS false b n 0 999 q3 >>= fun (x, q4) => numS false b n 0 999 q4 >>= fun (y, q5) => if nearS l x y = true then .error (6, ((tok false b n q3).2.1 : Nat)) else wantS false b n w_light q5 >>= fun q6 => numS false b n 1 99 q6 >>= fun (li, q7) => .ok (l ++ [((tok false b n q1).2.2.2.2, x, y, li)], q7)) = X → starS b n l q1 = X := fun X hX => by
        unfold starS
        dsimp only
        rw [if_neg (fun q => q hname), hnone, if_neg (by decide)]
        exact hX
      refine gX12_readStar_70 ?_
      unfold fX12_readStar_70
      rw [hp1.2.2.1, hw]
      refine ⟨fun _ => M_next hp1 (by rw [hname.1]; decide) (fun P2 f2 p2 => ?_), fun c => absurd (by decide) c⟩
      dsimp only [hx1, rV]
      have f2' : Fr prI [9] [] [] P1 P2 := f2.mono (by simp [tkI, prI]) (by simp) (by simp) (by simp)
      refine M_want (w := w_at) p2 (by decide) lw_at.1 lw_at.2 (fun q3 P3 e3 f3 p3 => ?_) (fun e P3 e3 f3 fa3 => ?_)
      · dsimp only [hx1, rV]
        rw [p3.2.1.2.1]
        refine M_num (lo := 0) (hi := 999) p3 (by omega) (by omega) (fun x q4 P4 e4 f4 p4 => ?_) (fun xx e P4 e4 f4 fa4 => ?_)
        · dsimp only [hx1, rI]
          have hxb := numS_ok p3.2.2.2.1 e4
          refine M_num (lo := 0) (hi := 999) p4 (by omega) (by omega) (fun y q5 P5 e5 f5 p5 => ?_) (fun xx e P5 e5 f5 fa5 => ?_)
          · dsimp only [hx1, rI]
            have hyb := numS_ok p4.2.2.2.1 e5
            have hF5 : Fr stI [9] stA [20] P P5 := fr (fr (fr (fr hF1 f2') f3) f4) f5
            have hs5 : SsM l P5 := hs.fr (Fr.trs (Fr.trs (Fr.trs (Fr.trs (hf1.mono (is' := prI) (ls' := [9]) (as' := []) (bs' := []) (by simp [tkI, prI]) (by simp) (by simp) (by simp)) f2') f3) f4) f5) (by simp [prI]) (by simp) (by simp) (by simp) (by simp)
            refine M_st123 (pl := ((tok false b n q3).2.1 : Nat)) p5 hs5 hxb.2.2 hyb.2.2 (fun hnear => ?_) (fun P6 hnear f6 fa6 => ?_) l.length 0 (by omega) (fun i hi => by omega)
            · refine M_st209 p5 hs5 h32 hok hxb.2.2 hyb.2.2 (fun q6 li q7 P6 e6 e7 f6 p6 s6 => ?_) (fun e P6 e6 f6 fa6 => ?_) (fun q6 e P6 e6 e7 f6 fa6 => ?_)
              · exact hy _ q7 P6 (hst0 _ (by rw [e3]; show (numS false b n 0 999 q3 >>= _) = _; rw [e4]; show (numS false b n 0 999 q4 >>= _) = _; rw [e5]; show (if nearS l x y = true then _ else _) = _; rw [hnear, if_neg (by decide)]; rw [e6]; show (numS false b n 1 99 q6 >>= _) = _; rw [e7]; rfl)) (hF5.trs f6) p6 s6
              · exact hn e P6 (hst0 _ (by rw [e3]; show (numS false b n 0 999 q3 >>= _) = _; rw [e4]; show (numS false b n 0 999 q4 >>= _) = _; rw [e5]; show (if nearS l x y = true then _ else _) = _; rw [hnear, if_neg (by decide)]; rw [e6]; rfl)) (hF5.trs f6) fa6
              · exact hn e P6 (hst0 _ (by rw [e3]; show (numS false b n 0 999 q3 >>= _) = _; rw [e4]; show (numS false b n 0 999 q4 >>= _) = _; rw [e5]; show (if nearS l x y = true then _ else _) = _; rw [hnear, if_neg (by decide)]; rw [e6]; show (numS false b n 1 99 q6 >>= _) = _; rw [e7]; rfl)) (hF5.trs f6) fa6
            · exact hn _ P6 (hst0 _ (by rw [e3]; show (numS false b n 0 999 q3 >>= _) = _; rw [e4]; show (numS false b n 0 999 q4 >>= _) = _; rw [e5]; show (if nearS l x y = true then _ else _) = _; rw [hnear, if_pos rfl])) (fr2 hF5 f6) fa6
          · dsimp only [hx1, rI]
            exact M_st123f fa5 (hn e P5 (hst0 _ (by rw [e3]; show (numS false b n 0 999 q3 >>= _) = _; rw [e4]; show (numS false b n 0 999 q4 >>= _) = _; rw [e5]; rfl)) (fr (fr (fr (fr hF1 f2') f3) f4) f5) fa5)
        · dsimp only [hx1, rI]
          refine M_num_f fa4 ?_
          dsimp only [hx1, rI]
          exact M_st123f fa4 (hn e P4 (hst0 _ (by rw [e3]; show (numS false b n 0 999 q3 >>= _) = _; rw [e4]; rfl)) (fr (fr (fr hF1 f2') f3) f4) fa4)
      · dsimp only [hx1, rV]
        refine M_num_f fa3 ?_
        dsimp only [hx1, rI]
        refine M_num_f fa3 ?_
        dsimp only [hx1, rI]
        exact M_st123f fa3 (hn e P3 (hst0 _ (by rw [e3]; rfl)) (fr (fr hF1 f2') f3) fa3)
    · -- told already
      have hthere : nameS l (tok false b n q1).2.2.2.2 = true := by
        rcases hx1' with ⟨_, i, hi, hq⟩ | ⟨e, _⟩
        · exact any_nth.mpr ⟨i, hi, decide_eq_true ((heq i hi).mp hq)⟩
        · rw [e] at c; exact absurd rfl c
      refine M_wrong (w := 3) hp1 (by omega) (fun P2 f2 fa2 => ?_)
      dsimp only [hx1, rV]
      rw [if_neg (by rw [hname.1]; decide)] at fa2
      refine M_st70f fa2 (hn _ P2 ?_ (fr2 hF1 f2) fa2)
      unfold starS
      dsimp only
      rw [if_neg (fun q => q hname), hthere, if_pos rfl]
  · dsimp only [hx1, rI]
    refine ⟨fun c => absurd rfl c, fun _ => M_wrong2 hp1 (fun P2 f2 fa2 => ?_)⟩
    dsimp only [hx1, rV]
    refine M_st70f fa2 (hn _ P2 ?_ (fr2 hF1 f2) fa2)
    unfold starS
    dsimp only
    rw [if_pos hname]
theorem M_plainOf {d : Nat} {k : Nat} {R : List PS} {Q : Option AV → List PS → Prop} (hk : k < 12) (h : Q (some (vI (iI (plain k)))) R) : Tri 186 d [vI (iI k)] R Q := by
  refine enX12_plainOf ?_
  unfold fX12_plainOf_0
  rcases (show k = 0 ∨ k = 1 ∨ k = 2 ∨ k = 3 ∨ k = 4 ∨ k = 5 ∨ k = 6 ∨ k = 7 ∨ k = 8 ∨ k = 9 ∨ k = 10 ∨ k = 11 by omega) with rfl | rfl | rfl | rfl | rfl | rfl | rfl | rfl | rfl | rfl | rfl | rfl
  all_goals
    repeat' first
      | exact h
      | exact fun _ => h
      | (refine ⟨fun c => absurd c (by decide), fun _ => ?_⟩)
      | (refine ⟨fun _ => ?_, fun c => absurd (by decide) c⟩)
