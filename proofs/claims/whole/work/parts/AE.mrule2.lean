def MnM (u : Nat) (out : List NT) (P : PS) : Prop := gI P 0 80 = iI (out.length : Nat) ∧ (∀ i, i < out.length → gA P 0 69 i = iI (out.getD i (0, 0)).1 ∧ ((out.getD i (0, 0)).1 = 0 → gA P 0 70 i = iI (out.getD i (0, 0)).2)) ∧ gI P 0 82 = iI (u : Nat)
def NrM (rs : List RLt) (P : PS) : Prop := gI P 0 81 = iI (rs.length : Nat) ∧ (∀ r, r < rs.length → gA P 0 72 r = iI (rs.getD r (0, [])).1) ∧ ∀ r, r ≤ rs.length → 0 < rs.length → gA P 0 71 r = iI ((cds (rs.take r)).length : Nat)
abbrev mrI : List Nat := [4, 6, 7, 8, 2, 3, 80, 82, 85, 86, 81]
abbrev mrA : List Nat := [69, 70, 77, 71, 72]
theorem MnM.fr {u : Nat} {out : List NT} {P P' : PS} {is ls as bs : List Nat} (h : MnM u out P) (hf : Fr is ls as bs P P') (h1 : 80 ∉ is) (h2 : 82 ∉ is) (g1 : 69 ∉ as) (g2 : 70 ∉ as) : MnM u out P' :=
  ⟨by rw [hf.2.1 _ h1]; exact h.1, fun i hi => by rw [hf.2.2.2.1 _ _ g1, hf.2.2.2.1 _ _ g2]; exact h.2.1 i hi, by rw [hf.2.1 _ h2]; exact h.2.2⟩
theorem NrM.fr {rs : List RLt} {P P' : PS} {is ls as bs : List Nat} (h : NrM rs P) (hf : Fr is ls as bs P P') (h1 : 81 ∉ is) (g1 : 72 ∉ as) (g2 : 71 ∉ as) : NrM rs P' :=
  ⟨by rw [hf.2.1 _ h1]; exact h.1, fun i hi => by rw [hf.2.2.2.1 _ _ g1]; exact h.2.1 i hi, fun i hi hp => by rw [hf.2.2.2.1 _ _ g2]; exact h.2.2 i hi hp⟩
theorem PrM.m2 {r : Bool} {b : Nat → Int} {n q : Nat} {P P' : PS} {is as : List Nat} (h : PrM r b n q P) (hf : Fr is [] as [] P P') (h1 : ∀ a, a ∈ is → a = 81 ∨ a = 85 ∨ a = 86) (h2 : 0 ∉ as) : PrM r b n q P' := by
  have k : ∀ a, a ≠ 81 → a ≠ 85 → a ≠ 86 → a ∉ is := fun a g1 g2 g3 g => by
    rcases h1 a g with e | e | e
    · exact g1 e
    · exact g2 e
    · exact g3 e
  refine ⟨h.1.fr hf (k _ (by decide) (by decide) (by decide)) (k _ (by decide) (by decide) (by decide)) h2, ⟨?_, ?_, fun g => ?_, fun g => ?_, fun g => ?_⟩, ?_, h.2.2.2.1, ?_⟩
  · rw [hf.2.1 _ (k _ (by decide) (by decide) (by decide))]; exact h.2.1.1
  · rw [hf.2.1 _ (k _ (by decide) (by decide) (by decide))]; exact h.2.1.2.1
  · rw [hf.2.1 _ (k _ (by decide) (by decide) (by decide))]; exact h.2.1.2.2.1 g
  · rw [hf.2.2.1 _ (by simp)]; exact h.2.1.2.2.2.1 g
  · rw [hf.2.1 _ (k _ (by decide) (by decide) (by decide))]; exact h.2.1.2.2.2.2 g
  · rw [hf.2.1 _ (k _ (by decide) (by decide) (by decide))]; exact h.2.2.1
  · rw [hf.2.1 _ (k _ (by decide) (by decide) (by decide))]; exact h.2.2.2.2
theorem FaM.fr {e : PE} {P P' : PS} {is ls as bs : List Nat} (h : FaM e P) (hf : Fr is ls as bs P P') (h1 : 2 ∉ is) (h2 : 3 ∉ is) : FaM e P' := ⟨by rw [hf.2.1 _ h1]; exact h.1, by rw [hf.2.1 _ h2]; exact h.2.1, h.2.2⟩
theorem FaM.nl {e : PE} {P : PS} (h : FaM e P) : ¬ gI P 0 2 ≤ 0 := by
  have h1 := h.2.2.1
  have h2 := h.2.2.2
  rw [show gI P 0 2 = _ from h.1, show (0 : Int32) = iI 0 from rfl, iI_le (by omega) (by omega) (by omega) (by omega)]
  omega
/-- behind a FAULT a rule is read no further -/
theorem M_rr_f {d k : Nat} {e : PE} {P : PS} {R : List PS} {Q : Option AV → List PS → Prop} (hk : k < 6) (hf : FaM e P) (h : ∀ P', FaM e P' → Fr mrI [9] mrA [] P P' → Q none (P' :: R)) : cX12_readRule_42 (0, 0, 0, 0) (d + 1) (iI (k : Nat)) P R Q := by
  refine gX12_readRule_42 ?_
  unfold fX12_readRule_42
  refine M_num_f hf ?_
  dsimp only [hx1, rI]
  refine ⟨vpk hk (by omega), ?_⟩
  have f1 : Fr [] [] [72] [] P (sA P 0 72 ((iI (k : Nat)).toNatClampNeg) 0) := Fr.rf.sA (by simp)
  have fa := hf.fr f1 (by simp) (by simp)
  refine M_want_f fa ?_
  dsimp only [hx1, rV]
  exact ⟨fun g => absurd g fa.nl, fun _ => h _ fa (f1.mono (by simp) (by simp) (by simp) (by simp))⟩
theorem M_readRule {d n q u : Nat} {b : Nat → Int} {rs : List RLt} {o : Except PE (List RLt × Nat × Nat)} {P : PS} {R : List PS} {Q : Option AV → List PS → Prop} (hn : n ≤ 400) (hp : PrM true b n q P) (hm : MnM u (cds rs) P) (hr : NrM rs P) (h6 : rs.length ≤ 6) (hu : u ≤ 40) (hl : 3 * (cds rs).length ≤ q + 6 * u) (hR : RuleR b n rs u q o)
    (hy : ∀ rs' u' q' P', o = .ok (rs', u', q') → PrM true b n q' P' → MnM u' (cds rs') P' → NrM rs' P' → rs'.length ≤ 6 → u' ≤ 40 → 3 * (cds rs').length ≤ q' + 6 * u' → Fr mrI [9] mrA [] P P' → Q none (P' :: R))
    (hno : ∀ e P', o = .error e → FaM e P' → Fr mrI [9] mrA [] P P' → Q none (P' :: R)) : Tri 274 (d + 5) [vR 0 0 0] (P :: R) Q := by
  have frp : ∀ {A B : PS}, Fr prI [9] [] [] A B → Fr mrI [9] mrA [] A B := fun f => f.mono (by simp) (by simp) (by simp) (by simp)
  refine enX12_readRule ?_
  unfold fX12_readRule_0
  rw [show gI P 0 81 = _ from hr.1, show (6 : Int32) = iI 6 from rfl, iI_eq (by omega) (by omega) (by omega) (by omega)]
  have i6 : iI (rs.length : Nat) = gI P 0 81 := hr.1.symm
  refine ⟨fun c => ?_, fun c => ?_⟩
  · rcases hR with ⟨g, _⟩ | ⟨c6, hR⟩
    · exact absurd g (by omega)
    refine M_want (w := w_trust) hp rfl (by unfold lets; decide) (by decide) (fun q1 A e1 f1 p1 => ?_) (fun e A e1 f1 fa => ?_)
    · dsimp only [hx1, rV]
      rw [show gI A 0 81 = iI (rs.length : Nat) by rw [f1.2.1 _ (by simp)]; exact hr.1, iI_le (by omega) (by omega) (by omega) (by omega)]
      refine ⟨fun g => absurd g (by omega), fun _ => ?_⟩
      rcases hR with ⟨e, h1, _⟩ | ⟨q1', h1, hR⟩
      · rw [e1] at h1; cases h1
      rw [e1] at h1
      cases h1
      refine gX12_readRule_42 ?_
      unfold fX12_readRule_42
      refine M_num (lo := 0) (hi := 99) p1 (by omega) (by omega) (fun v q2 B e2 f2 p2 => ?_) (fun x e B e2 f2 fa => ?_)
      · dsimp only [hx1, rI]
        rcases hR with ⟨e, h1, _⟩ | ⟨v', q2', h1, hR⟩
        · rw [e2] at h1; cases h1
        rw [e2] at h1
        cases h1
        have cl : (iI (rs.length : Nat)).toNatClampNeg = rs.length := by rw [iI_cl (by omega) (by omega), Int.toNat_natCast]
        rw [cl]
        refine ⟨vpk (by omega) (by omega), ?_⟩
        have f3 : Fr [] [] [72] [] B (sA B 0 72 rs.length (iI v)) := Fr.rf.sA (by simp)
        have t3 : ∀ r, gA (sA B 0 72 rs.length (iI v)) 0 72 r = if r = rs.length then iI v else gA B 0 72 r := fun r => by rw [gA_sA, if_pos rfl, if_pos rfl]
        have p3 := p2.m2 f3 (by simp) (by simp)
        generalize sA B 0 72 rs.length (iI v) = B3 at *
        refine M_want (w := w_when) p3 rfl (by unfold lets; decide) (by decide) (fun q3 C e3 f4 p4 => ?_) (fun e C e3 f4 fa => ?_)
        · dsimp only [hx1, rV]
          rcases hR with ⟨e, h1, _⟩ | ⟨q3', h1, hR⟩
          · rw [e3] at h1; cases h1
          rw [e3] at h1
          cases h1
          have q1l := wantS_ok hp.2.2.2.1 e1
          have q2l := numS_ok q1l.2 e2
          have q3l := wantS_ok q2l.2.1 e3
          have FC : Fr prI [9] [72] [] P C := ((f1.trs f2).mono (by simp) (by simp) (by simp) (by simp)).trs ((f3.mono (by simp) (by simp) (by simp) (by simp)).trs (f4.mono (by simp) (by simp) (by simp) (by simp)))
          have rC : gI C 0 81 = iI (rs.length : Nat) := by rw [FC.2.1 _ (by simp)]; exact hr.1
          have nC : MnM u (cds rs) C := hm.fr FC (by simp) (by simp) (by simp) (by simp)
          rw [show gI C 0 2 = iI 0 from p4.2.2.1, rC, cl, show gI C 0 80 = _ from nC.1]
          refine ⟨fun _ => ⟨vpk (by omega) (by omega), ?_⟩, fun g => absurd (by decide) g⟩
          have f5 : Fr [81, 85, 86] [] [71] [] C (sI (sI (sA C 0 71 rs.length (iI ((cds rs).length : Nat))) 0 85 0) 0 86 0) := ((Fr.rf.sA (by simp)).sI (by simp)).sI (by simp)
          have p5 := p4.m2 f5 (by simp) (by simp)
          have n5 := nC.fr f5 (by simp) (by simp) (by simp) (by simp)
          have b5 : ∀ r, gA (sI (sI (sA C 0 71 rs.length (iI ((cds rs).length : Nat))) 0 85 0) 0 86 0) 0 71 r = if r = rs.length then iI ((cds rs).length : Nat) else gA C 0 71 r := fun r => by
            show gA (sA C 0 71 rs.length (iI ((cds rs).length : Nat))) 0 71 r = _
            rw [gA_sA, if_pos rfl, if_pos rfl]
          have r5 : gI (sI (sI (sA C 0 71 rs.length (iI ((cds rs).length : Nat))) 0 85 0) 0 86 0) 0 81 = iI (rs.length : Nat) := rC
          have m5 : MsM [] u (cds rs) (sI (sI (sA C 0 71 rs.length (iI ((cds rs).length : Nat))) 0 85 0) 0 86 0) := ⟨n5.1, n5.2.1, n5.2.2, rfl, fun i hi => absurd hi (Nat.not_lt_zero i), rfl⟩
          generalize sI (sI (sA C 0 71 rs.length (iI ((cds rs).length : Nat))) 0 85 0) 0 86 0 = D at *
          have FD : Fr mrI [9] mrA [] P D := (FC.mono (by simp) (by simp) (by simp) (by simp)).trs (f5.mono (by simp) (by simp) (by simp) (by simp))
          have tD : ∀ r, gA D 0 72 r = if r = rs.length then iI v else gA P 0 72 r := fun r => by
            rw [f5.2.2.2.1 _ _ (by simp), f4.2.2.2.1 _ _ (by simp), t3 r, f2.2.2.2.1 _ _ (by simp), f1.2.2.2.1 _ _ (by simp)]
          have bD : ∀ r, gA D 0 71 r = if r = rs.length then iI ((cds rs).length : Nat) else gA P 0 71 r := fun r => by
            rw [b5 r, FC.2.2.2.1 _ _ (by simp)]
          have inv : InvM (0, q3, [], u, cds rs) := ⟨by show 0 ≤ 2; omega, fun a ha => (by cases ha), hu, by show 3 * ((cds rs).length + 0) + 0 ≤ q3 + 6 * u; omega⟩
          rcases hR with ⟨e, ⟨f, hf⟩, ho⟩ | ⟨q4, u4, C4, ⟨f, hf⟩, _, _, cc, ho⟩
          · exact M_run hn f 0 q3 u [] (cds rs) D _ hf inv p5 m5 (fun q' u' out' P' eo => by cases eo) (fun e' P' eo fa f' => by
              cases eo
              exact hno e P' ho fa (FD.trs (f'.mono (by simp) (by simp) (by simp) (by simp))))
          · refine M_run hn f 0 q3 u [] (cds rs) D _ hf inv p5 m5 (fun q' u' out' P' eo p' m' l' u40 q'n f' => ?_) (fun e' P' eo => by cases eo)
            cases eo
            have rP : gI P' 0 81 = iI (rs.length : Nat) := by rw [f'.2.1 _ (by simp)]; exact r5
            have cl1 : (iI ((rs.length + 1 : Nat))).toNatClampNeg = rs.length + 1 := by rw [iI_cl (by omega) (by omega), Int.toNat_natCast]
            rw [rP, show iI (rs.length : Nat) + 1 = iI ((rs.length + 1 : Nat)) from iI_add _ 1, cl1, show gI P' 0 80 = _ from m'.1]
            refine ⟨vpk (by omega) (by omega), ?_⟩
            have f6 : Fr [81] [] [71] [] P' (sA (sI P' 0 81 (iI ((rs.length + 1 : Nat)))) 0 71 (rs.length + 1) (iI ((cds rs ++ C4).length : Nat))) := (Fr.rf.sI (by simp)).sA (by simp)
            have b6 : ∀ r, gA (sA (sI P' 0 81 (iI ((rs.length + 1 : Nat)))) 0 71 (rs.length + 1) (iI ((cds rs ++ C4).length : Nat))) 0 71 r = if r = rs.length + 1 then iI ((cds rs ++ C4).length : Nat) else gA P' 0 71 r := fun r => by
              rw [gA_sA, if_pos rfl, if_pos rfl]; rfl
            have r6 : gI (sA (sI P' 0 81 (iI ((rs.length + 1 : Nat)))) 0 71 (rs.length + 1) (iI ((cds rs ++ C4).length : Nat))) 0 81 = iI ((rs.length + 1 : Nat)) := rfl
            generalize sA (sI P' 0 81 (iI ((rs.length + 1 : Nat)))) 0 71 (rs.length + 1) (iI ((cds rs ++ C4).length : Nat)) = E at *
            have ln : (rs ++ [(v, C4)]).length = rs.length + 1 := by rw [List.length_append]; rfl
            have tlt := tq_lt b n q'n (Or.inr (Or.inr cc.1))
            refine hy (rs ++ [(v, C4)]) u4 (tkq b n q4).2.2.1 E ho (p'.m2 f6 (by simp) (by simp)) ?_ ⟨?_, fun r hr' => ?_, fun r hr' _ => ?_⟩ (by omega) u40 ?_ (FD.trs ((f'.mono (by simp) (by simp) (by simp) (by simp)).trs (f6.mono (by simp) (by simp) (by simp) (by simp))))
            · rw [cds_app]
              exact MnM.fr (show MnM u4 (cds rs ++ C4) P' from ⟨m'.1, m'.2.1, m'.2.2.1⟩) f6 (by simp) (by simp) (by simp) (by simp)
            · rw [ln]; exact r6
            · rw [ln] at hr'
              rw [f6.2.2.2.1 _ _ (by simp), f'.2.2.2.1 _ _ (by simp), tD r]
              by_cases c : r = rs.length
              · subst c
                rw [if_pos rfl, List.getD_eq_getElem?_getD, List.getElem?_append_right (Nat.le_refl _), Nat.sub_self]; rfl
              · rw [if_neg c, List.getD_eq_getElem?_getD, List.getElem?_append_left (by omega), ← List.getD_eq_getElem?_getD]
                exact hr.2.1 r (by omega)
            · rw [ln] at hr'
              rw [b6 r]
              by_cases c : r = rs.length + 1
              · rw [if_pos c, List.take_of_length_le (by omega), cds_app]
              · rw [if_neg c, f'.2.2.2.1 _ _ (by simp), bD r, take_l (by omega)]
                by_cases c' : r = rs.length
                · rw [if_pos c', List.take_of_length_le (by omega)]
                · rw [if_neg c']
                  exact hr.2.2 r (by omega) (by omega)
            · rw [cds_app]; show 3 * (cds rs ++ C4).length ≤ (tkq b n q4).2.2.1 + 6 * u4; omega
        · dsimp only [hx1, rV]
          refine ⟨fun g => absurd g fa.nl, fun _ => ?_⟩
          rcases hR with ⟨e', h1, ho⟩ | ⟨q3', h1, _⟩
          · rw [e3] at h1
            cases h1
            exact hno e C ho fa ((frp f1).trs ((frp f2).trs ((f3.mono (by simp) (by simp) (by simp) (by simp)).trs (frp f4))))
          · rw [e3] at h1; cases h1
      · dsimp only [hx1, rI]
        refine ⟨vpk (by omega) (by omega), ?_⟩
        have f3 : Fr [] [] [72] [] B (sA B 0 72 ((iI (rs.length : Nat)).toNatClampNeg) x) := Fr.rf.sA (by simp)
        have fa3 := fa.fr f3 (by simp) (by simp)
        refine M_want_f fa3 ?_
        dsimp only [hx1, rV]
        refine ⟨fun g => absurd g fa3.nl, fun _ => ?_⟩
        rcases hR with ⟨e', h1, ho⟩ | ⟨v', q2', h1, _⟩
        · rw [e2] at h1
          cases h1
          exact hno e _ ho fa3 ((frp f1).trs ((frp f2).trs (f3.mono (by simp) (by simp) (by simp) (by simp))))
        · rw [e2] at h1; cases h1
    · dsimp only [hx1, rV]
      rw [show gI A 0 81 = iI (rs.length : Nat) by rw [f1.2.1 _ (by simp)]; exact hr.1, iI_le (by omega) (by omega) (by omega) (by omega)]
      refine ⟨fun g => absurd g (by omega), fun _ => ?_⟩
      refine M_rr_f (by omega) fa (fun P' fa' f' => ?_)
      rcases hR with ⟨e', h1, ho⟩ | ⟨q1', h1, _⟩
      · rw [e1] at h1
        cases h1
        exact hno e P' ho fa' ((frp f1).trs f')
      · rw [e1] at h1; cases h1
  · rcases hR with ⟨_, ho⟩ | ⟨g, _⟩
    · refine M_wrong2 hp (fun A f1 fa => ?_)
      dsimp only [hx1, rV]
      refine M_want_f fa ?_
      dsimp only [hx1, rV]
      rw [show gI A 0 81 = iI (rs.length : Nat) by rw [f1.2.1 _ (by simp)]; exact hr.1, iI_le (by omega) (by omega) (by omega) (by omega)]
      refine ⟨fun _ => M_rr_f (k := 0) (by omega) fa (fun P' fa' f' => hno _ P' ho fa' ((f1.mono (by simp) (by simp) (by simp) (by simp)).trs f')), fun g => absurd (by omega) g⟩
    · omega
