theorem PrM.ms {r : Bool} {b : Nat → Int} {n q : Nat} {P P' : PS} (h : PrM r b n q P) (hf : Fr msI [] mcA [] P P') : PrM r b n q P' := by
  refine ⟨h.1.fr hf (by simp) (by simp) (by simp), ⟨?_, ?_, fun g => ?_, fun g => ?_, fun g => ?_⟩, ?_, h.2.2.2.1, ?_⟩
  · rw [hf.2.1 _ (by simp)]; exact h.2.1.1
  · rw [hf.2.1 _ (by simp)]; exact h.2.1.2.1
  · rw [hf.2.1 _ (by simp)]; exact h.2.1.2.2.1 g
  · rw [hf.2.2.1 _ (by simp)]; exact h.2.1.2.2.2.1 g
  · rw [hf.2.1 _ (by simp)]; exact h.2.1.2.2.2.2 g
  · rw [hf.2.1 _ (by simp)]; exact h.2.2.1
  · rw [hf.2.1 _ (by simp)]; exact h.2.2.2.2
/-- the next token, and the machine as it is -/
theorem M_nx {d n q u : Nat} {b : Nat → Int} {S : List Int} {out : List NT} {P P0 : PS} {R : List PS} {Q : Option AV → List PS → Prop} (hp : PrM true b n q P) (hm : MsM S u out P) (h3 : (tkq b n q).1 ≠ 3) (h : ∀ P', PrM true b n (tkq b n q).2.2.1 P' → MsM S u out P' → Fr mcI [9] mcA [] P P' → Q none (P' :: R)) : Tri 178 (d + 1) [vR 0 0 0] (P :: R) Q :=
  M_next hp h3 (fun P' f p => h P' p (hm.fr f (by simp) (by simp) (by simp) (by simp) (by simp) (by simp) (by simp)) (f.mono (by simp) (by simp) (by simp) (by simp)))
theorem frU {P P' : PS} (h : Fr msI [] mcA [] P P') : Fr mcI [9] mcA [] P P' := h.mono (by simp) (by simp) (by simp) (by simp)
theorem t3 {t : TK} (h : t.1 = 1 ∨ t.1 = 2 ∨ t.1 = 4) : t.1 ≠ 3 := by omega
theorem M_operand {d n q u now : Nat} {b : Nat → Int} {S : List Int} {out : List NT} {P : PS} {R : List PS} {Q : Option AV → List PS → Prop} (hnow : now = 0 ∨ now = 1) (hp : PrM true b n q P) (hm : MsM S u out P) (hs : S.length < 299) (hl : out.length < 300) (hu : u ≤ 40)
    (hy : ∀ s' P', opM now (tkq b n q) S u out = .inl s' → PrM true b n s'.2.1 P' → MsM s'.2.2.1 s'.2.2.2.1 s'.2.2.2.2 P' → Fr mcI [9] mcA [] P P' → Q (some (vI (iI (s'.1 : Nat)))) (P' :: R))
    (hn : ∀ e x P', opM now (tkq b n q) S u out = .inr e → FaM e P' → Fr mcI [9] mcA [] P P' → Q (some (vI x)) (P' :: R)) : Tri 272 (d + 3) [vR 0 0 0, vI (iI (now : Nat))] (P :: R) Q := by
  have dl := dpS_le S
  have kc := knw_c (tkq b n q)
  have s40 : gI P 0 6 = (40 : Int32) ↔ isC (tkq b n q) 40 := hp.sgn (c := 40) (by omega) (by omega)
  have s2 : gI P 0 6 = (2 : Int32) ↔ (tkq b n q).1 = 2 := hp.srt (k := 2) (by omega)
  have f0 : gI P 0 2 = iI 0 := hp.2.2.1
  have bad : ∀ (x1 x2 x3 : Int32), ((¬ (now = 0 ∧ isW (tkq b n q) w_not) ∧ ¬ unt (tkq b n q)) ∨ (unt (tkq b n q) ∧ u = 40) ∨ (((now = 0 ∧ isW (tkq b n q) w_not) ∨ isC (tkq b n q) 40) ∧ 7 ≤ dpS S)) → Tri 179 (d + 2) [vR 0 0 0, vI 2] (P :: R) (fun r5 h5 => hx1 h5 fun P0_5 R_5 => rV r5 (cX12_operand_103 (0, 0, 0, 0) (d + 2) x1 x2 x3 P0_5 R_5 Q)) := by
    intro x1 x2 x3 hA
    refine M_wrong2 hp (fun P' f fa => ?_)
    dsimp only [hx1, rV]
    refine gX12_operand_103 ?_
    unfold fX12_operand_103
    have b1 := badF_bd (tok true b n q)
    rw [show gI P' 0 2 = _ from fa.1, show (0 : Int32) = iI 0 from rfl, iI_le (by show -2147483648 ≤ badF (tok true b n q); omega) (by show badF (tok true b n q) < 2147483648; omega) (by omega) (by omega)]
    refine ⟨fun g => absurd g (by show ¬ badF (tok true b n q) ≤ 0; omega), fun _ => hn _ x1 P' ?_ fa (f.mono (by simp) (by simp) (by simp) (by simp))⟩
    unfold opM
    rw [if_pos hA]; rfl
  have good : ¬ ((¬ (now = 0 ∧ isW (tkq b n q) w_not) ∧ ¬ unt (tkq b n q)) ∨ (unt (tkq b n q) ∧ u = 40) ∨ (((now = 0 ∧ isW (tkq b n q) w_not) ∨ isC (tkq b n q) 40) ∧ 7 ≤ dpS S)) → cX12_operand_103 (0, 0, 0, 0) (d + 2) (iI (now : Nat)) (oI (decide (now = 0 ∧ isW (tkq b n q) w_not))) (iI (knw (tkq b n q))) P R Q := by
    intro hA
    have e : opM now (tkq b n q) S u out = if now = 0 ∧ isW (tkq b n q) w_not then .inl (0, (tkq b n q).2.2.1, 22 :: S, u, out) else if isC (tkq b n q) 40 then .inl (0, (tkq b n q).2.2.1, 30 :: S, u + 1, out) else .inl (2, (tkq b n q).2.2.1, S, u + 1, out ++ [ntc (tkq b n q)]) := by unfold opM; rw [if_neg hA]
    refine gX12_operand_103 ?_
    unfold fX12_operand_103
    rw [f0, oI_dec, s40]
    have mU : MsM S (u + 1) out (sI P 0 82 (gI P 0 82 + 1)) := ⟨hm.1, hm.2.1, by
      rw [gI_sI, if_pos rfl, if_pos rfl, show gI P 0 82 = _ from hm.2.2.1]; exact iI_add _ 1, hm.2.2.2.1, hm.2.2.2.2.1, hm.2.2.2.2.2⟩
    have fU : Fr msI [] mcA [] P (sI P 0 82 (gI P 0 82 + 1)) := Fr.rf.sI (by simp)
    have pU := hp.ms fU
    have val : ¬ (now = 0 ∧ isW (tkq b n q) w_not) → ¬ isC (tkq b n q) 40 → ∀ x3 : Int32, x3 = iI (ntc (tkq b n q)).1 → Tri 264 (d + 2) [vR 0 0 0, vI x3, vI (gI P 0 8)] ((sI P 0 82 ((gI P 0 82) + 1)) :: R) (fun r10 h10 => hx1 h10 fun P0_10 R_10 => rV r10 (Tri 178 (d + 2) [vR 0 0 0] (P0_10 :: R_10) (fun r11 h11 => hx1 h11 fun P0_11 R_11 => rV r11 (Q (some (vI 2)) (P0_11 :: R_11))))) := by
      intro nn n4 x3 hx3
      have un : unt (tkq b n q) := Classical.byContradiction (fun g => hA (Or.inl ⟨nn, g⟩))
      have t12 : (tkq b n q).1 = 1 ∨ (tkq b n q).1 = 2 ∨ (tkq b n q).1 = 4 := by
        rcases un with g | g | g
        · exact Or.inr (Or.inl g)
        · exact absurd g n4
        · exact Or.inl (kc.2.2 g)
      refine M_note (a := ntc (tkq b n q)) hx3 (fun g => ?_) mU hl (fun P' m' f' => ?_)
      · have k0 : knw (tkq b n q) < 0 := by
          refine Classical.byContradiction (fun c => ?_)
          rw [ntc_k (by omega)] at g
          have : knw (tkq b n q) = 0 := g
          omega
        have t2 : (tkq b n q).1 = 2 := by
          rcases un with g | g | g
          · exact g
          · exact absurd g n4
          · omega
        rw [ntc_n k0]
        exact hp.2.1.2.2.1 t2
      · dsimp only [hx1, rV]
        have f1 : Fr msI [] mcA [] P P' := fU.trs (f'.mono (by simp) (by simp) (by simp) (by simp))
        refine M_nx (P0 := P) (hp.ms f1) m' (t3 t12) (fun P'' p'' m'' f'' => ?_)
        dsimp only [hx1, rV]
        have := hy (2, (tkq b n q).2.2.1, S, u + 1, out ++ [ntc (tkq b n q)]) P'' (by rw [e, if_neg nn, if_neg n4]) p'' m'' ((frU f1).trs f'')
        exact this
    refine ⟨fun _ => ⟨fun c => ⟨fun c1 => ⟨fun c2 => ?_, fun c2 => ?_⟩, fun c1 => ?_⟩, fun c => ?_⟩, fun g => absurd (by decide) g⟩
    · refine val c c1 _ ?_
      rw [show (0 : Int32) = iI 0 from rfl, iI_le (by omega) (by omega) (by omega) (by omega)] at c2
      rw [ntc_k c2]
    · refine val c c1 _ ?_
      rw [show (0 : Int32) = iI 0 from rfl, iI_le (by omega) (by omega) (by omega) (by omega)] at c2
      rw [ntc_n (by omega)]; rfl
    · refine M_hold (a := 30) rfl (by omega) mU hs (fun P' m' f' => ?_)
      dsimp only [hx1, rV]
      have f1 : Fr msI [] mcA [] P P' := fU.trs (f'.mono (by simp) (by simp) (by simp) (by simp))
      refine M_nx (P0 := P) (hp.ms f1) m' (t3 (Or.inr (Or.inr c1.1))) (fun P'' p'' m'' f'' => ?_)
      dsimp only [hx1, rV]
      exact hy (0, (tkq b n q).2.2.1, 30 :: S, u + 1, out) P'' (by rw [e, if_neg c, if_pos c1]) p'' m'' ((frU f1).trs f'')
    · have c' := Decidable.not_not.mp c
      refine M_hold (a := 22) rfl (by omega) hm hs (fun P' m' f' => ?_)
      dsimp only [hx1, rV]
      have f1 : Fr msI [] mcA [] P P' := f'.mono (by simp) (by simp) (by simp) (by simp)
      refine M_nx (P0 := P) (hp.ms f1) m' (t3 (Or.inl c'.2.1)) (fun P'' p'' m'' f'' => ?_)
      dsimp only [hx1, rV]
      exact hy (0, (tkq b n q).2.2.1, 22 :: S, u, out) P'' (by rw [e, if_pos c']) p'' m'' ((frU f1).trs f'')
  have d7 : gI P 0 86 < (7 : Int32) ↔ dpS S < 7 := by
    rw [show gI P 0 86 = _ from hm.2.2.2.2.2, show (7 : Int32) = iI 7 from rfl, iI_lt (by omega) (by omega) (by omega) (by omega)]; omega
  have u40 : gI P 0 82 = (40 : Int32) ↔ u = 40 := by
    rw [show gI P 0 82 = _ from hm.2.2.1, show (40 : Int32) = iI 40 from rfl, iI_eq (by omega) (by omega) (by omega) (by omega)]; omega
  have c76 : ¬ (¬ (now = 0 ∧ isW (tkq b n q) w_not) ∧ ¬ unt (tkq b n q)) → ¬ (unt (tkq b n q) ∧ u = 40) → cX12_operand_76 (0, 0, 0, 0) (d + 2) (iI (now : Nat)) (oI (decide (now = 0 ∧ isW (tkq b n q) w_not))) (iI (knw (tkq b n q))) P R Q := by
    intro n1 n2
    refine gX12_operand_76 ?_
    unfold fX12_operand_76
    rw [oI_dec, s40, d7]
    refine ⟨fun c => ⟨fun c1 => ?_, fun c1 => ?_⟩, fun c => ⟨fun c1 => ?_, fun c1 => ⟨fun c2 => ?_, fun c2 => ?_⟩⟩⟩
    · exact good (by rintro (g | g | g); exact n1 g; exact n2 g; omega)
    · exact bad _ _ _ (Or.inr (Or.inr ⟨Or.inl (Decidable.not_not.mp c), by omega⟩))
    · exact good (by rintro (g | g | g); exact n1 g; exact n2 g; exact g.1.elim c c1)
    · exact good (by rintro (g | g | g); exact n1 g; exact n2 g; omega)
    · exact bad _ _ _ (Or.inr (Or.inr ⟨Or.inr c1, by omega⟩))
  have c51 : cX12_operand_51 (0, 0, 0, 0) (d + 2) (iI (now : Nat)) (oI (decide (now = 0 ∧ isW (tkq b n q) w_not))) (iI (knw (tkq b n q))) (oI (decide (unt (tkq b n q)))) P R Q := by
    refine gX12_operand_51 ?_
    unfold fX12_operand_51
    rw [oI_dec, oI_dec, u40]
    refine ⟨fun c => ⟨fun c1 => ?_, fun c1 => ⟨fun c2 => ?_, fun c2 => ?_⟩⟩, fun c => ⟨fun c1 => ?_, fun c1 => ⟨fun c2 => absurd c2 c1, fun _ => ⟨fun c2 => ?_, fun c2 => ?_⟩⟩⟩⟩
    · exact c76 (fun g => c g.1) (fun g => c1 g.1)
    · exact bad _ _ _ (Or.inr (Or.inl ⟨Decidable.not_not.mp c1, c2⟩))
    · exact c76 (fun g => c g.1) (fun g => c2 g.2)
    · exact bad _ _ _ (Or.inl ⟨c, c1⟩)
    · exact bad _ _ _ (Or.inr (Or.inl ⟨Decidable.not_not.mp c1, c2⟩))
    · exact c76 (fun g => c1 g.2) (fun g => c2 g.2)
  have kn : ∀ x2 : Int32, x2 = oI (decide (now = 0 ∧ isW (tkq b n q) w_not)) → Tri 271 (d + 2) [vR 0 0 0] (P :: R) (fun r1 h1 => hx1 h1 fun P0_1 R_1 => rI r1 fun y1 => ((gI P0_1 0 6) = 2 → cX12_operand_51 (0, 0, 0, 0) (d + 2) (iI (now : Nat)) x2 y1 1 P0_1 R_1 Q) ∧ (¬ (gI P0_1 0 6) = 2 → ((gI P0_1 0 6) = 40 → cX12_operand_51 (0, 0, 0, 0) (d + 2) (iI (now : Nat)) x2 y1 1 P0_1 R_1 Q) ∧ (¬ (gI P0_1 0 6) = 40 → (y1 < 0 → cX12_operand_51 (0, 0, 0, 0) (d + 2) (iI (now : Nat)) x2 y1 0 P0_1 R_1 Q) ∧ (¬ y1 < 0 → cX12_operand_51 (0, 0, 0, 0) (d + 2) (iI (now : Nat)) x2 y1 1 P0_1 R_1 Q)))) := by
    intro x2 hx2
    subst hx2
    refine M_known hp ?_
    dsimp only [hx1, rI]
    rw [s2, s40, show (0 : Int32) = iI 0 from rfl, iI_lt (by omega) (by omega) (by omega) (by omega)]
    refine ⟨fun c => ?_, fun c => ⟨fun c1 => ?_, fun c1 => ⟨fun c2 => ?_, fun c2 => ?_⟩⟩⟩
    · rw [decide_eq_true (show unt (tkq b n q) from Or.inl c)] at c51; exact c51
    · rw [decide_eq_true (show unt (tkq b n q) from Or.inr (Or.inl c1))] at c51; exact c51
    · rw [decide_eq_false (show ¬ unt (tkq b n q) by rintro (g | g | g); exact c g; exact c1 g; omega)] at c51; exact c51
    · rw [decide_eq_true (show unt (tkq b n q) from Or.inr (Or.inr (by omega)))] at c51; exact c51
  refine enX12_operand ?_
  unfold fX12_operand_0
  have n0 : iI (now : Nat) = (0 : Int32) ↔ now = 0 := by
    rw [show (0 : Int32) = iI 0 from rfl, iI_eq (by omega) (by omega) (by omega) (by omega)]; omega
  rw [n0]
  refine ⟨fun c => ?_, fun c => ?_⟩
  · refine kn 0 ?_
    rw [decide_eq_false (fun g => c g.1)]; rfl
  · refine M_isWord (w := w_not) hp rfl (by unfold lets; decide) (by decide) (fun a => ?_) (fun a => ?_)
    · dsimp only [hx1, rI]
      refine ⟨fun g => absurd g (by decide), fun _ => kn 1 ?_⟩
      rw [decide_eq_true (show now = 0 ∧ isW (tkq b n q) w_not from ⟨c, a⟩)]; rfl
    · dsimp only [hx1, rI]
      refine ⟨fun _ => kn 0 ?_, fun g => absurd rfl g⟩
      rw [decide_eq_false (fun g => a g.2)]; rfl
