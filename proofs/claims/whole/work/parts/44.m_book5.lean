/-! ===== the Model: book ===== -/
abbrev bkI : List Nat := [4, 6, 7, 8, 2, 3, 21, 1, 5, 10]
abbrev bkJ : List Nat := [4, 6, 7, 8, 2, 3, 21]
abbrev bkA : List Nat := [13, 14, 15, 11, 19]
def AcM (a : BA) (P : PS) : Prop := SsM a.1 P ∧ TdM a.2.1 P ∧ HsM a.2.2 P
theorem M_sgn {d : Nat} {b : Nat → Int} {n q : Nat} {P : PS} {R : List PS} {Q : Option AV → List PS → Prop} (hp : PrM false b n q P)
    (hy : ∀ q' P', sgnS false b n 59 q = .ok q' → Fr prI [9] [] [] P P' → PrM false b n q' P' → cX12_book_49 (0, 0, 0, 0) (d + 1) P' R Q) (hn : ∀ e P', sgnS false b n 59 q = .error e → Fr prI [9] [] [] P P' → FaM e P' → cX12_book_49 (0, 0, 0, 0) (d + 1) P' R Q) : cX12_book_111 (0, 0, 0, 0) (d + 1) P R Q := by
  refine gX12_book_111 ?_
  unfold fX12_book_111
  have h59 := hp.sgn (c := 59) (by omega) (by omega)
  have e59 : iI 59 = (59 : Int32) := rfl
  rw [e59] at h59
  rw [hp.2.2.1, h59]
  refine ⟨fun c => absurd rfl c, fun _ => ⟨fun c => ⟨fun c' => absurd rfl c', fun _ => M_next hp (by rw [c.1]; decide) (fun P' f p => ?_)⟩, fun c => M_wrong2 hp (fun P' f fa => ?_)⟩⟩
  · dsimp only [hx1, rV]
    exact hy _ P' (by unfold sgnS; rw [if_pos c]) (f.mono (by simp [tkI, prI]) (by simp) (by simp) (by simp)) p
  · dsimp only [hx1, rV]
    exact ⟨fun _ => hn _ P' (by unfold sgnS; rw [if_neg c]) (f.mono (by simp [prI]) (by simp) (by simp) (by simp)) fa, fun c => absurd c fa.ne⟩
theorem M_b111f {d : Nat} {e : PE} {P : PS} {R : List PS} {Q : Option AV → List PS → Prop} (hf : FaM e P) (h : cX12_book_49 (0, 0, 0, 0) d P R Q) : cX12_book_111 (0, 0, 0, 0) d P R Q := by
  refine gX12_book_111 ?_
  unfold fX12_book_111
  exact ⟨fun _ => ⟨fun _ => h, fun c => absurd c hf.ne⟩, fun c => absurd c hf.ne⟩
theorem M_b49f {d : Nat} {e : PE} {P : PS} {R : List PS} {Q : Option AV → List PS → Prop} (hf : FaM e P) (h : Q (some (vI (-1))) (P :: R)) : cX12_book_49 (0, 0, 0, 0) d P R Q := by
  refine gX12_book_49 ?_
  unfold fX12_book_49
  exact ⟨fun _ => ⟨fun c => absurd c hf.nle, fun _ => h⟩, fun c => absurd c hf.ne⟩
theorem HsM.up {f : Nat → Bool} {P P' : PS} {k : Nat} (h : HsM f P) (hk : ∀ j, gA P' 0 19 j = if j = k then 1 else gA P 0 19 j) : HsM (upB f k true) P' := by
  intro j hj
  rw [hk j]
  unfold upB
  by_cases e : j = k
  · rw [if_pos e, if_pos e, if_pos rfl]
  · rw [if_neg e, if_neg e]; exact h j hj
theorem HsM.fr {f : Nat → Bool} {P P' : PS} {is ls as bs : List Nat} (h : HsM f P) (hf : Fr is ls as bs P P') (h1 : 19 ∉ as) : HsM f P' := fun j hj => by rw [hf.2.2.2.1 _ _ h1]; exact h j hj
theorem AcM.fr {a : BA} {P P' : PS} (h : AcM a P) (hf : Fr prI [9] [] [] P P') : AcM a P' := ⟨h.1.fr hf (by simp [prI]) (by simp) (by simp) (by simp) (by simp), h.2.1.fr hf (by simp), h.2.2.fr hf (by simp)⟩
theorem bindE {α β : Type} {x : Except PE α} {f : α → Except PE β} {y : β} (h : (x >>= f) = .ok y) : ∃ a, x = .ok a ∧ f a = .ok y := by
  cases x with
  | error e => cases h
  | ok a => exact ⟨a, rfl, h⟩
theorem starS_ok {b : Nat → Int} {n q q' : Nat} {l l' : List SR} (hq : q ≤ n) (h : starS b n l q = .ok (l', q')) : q < q' ∧ q' ≤ n := by
  unfold starS at h
  dsimp only at h
  split at h
  · cases h
  rename_i c1
  have c1 : (tok false b n q).1 = 1 ∧ wid (tok false b n q).2.2.2.2 = -1 := Decidable.not_not.mp c1
  split at h
  · cases h
  have hnx := tok_nx (r := false) (b := b) hq (by rw [c1.1]; decide) (by rw [c1.1]; decide)
  obtain ⟨q3, e3, h⟩ := bindE h
  have g3 := wantS_ok hnx.2 e3
  obtain ⟨⟨x, q4⟩, e4, h⟩ := bindE h
  have g4 := numS_ok g3.2 e4
  obtain ⟨⟨y, q5⟩, e5, h⟩ := bindE h
  have g5 := numS_ok g4.2.1 e5
  dsimp only at h
  split at h
  · cases h
  obtain ⟨q6, e6, h⟩ := bindE h
  have g6 := wantS_ok g5.2.1 e6
  obtain ⟨⟨li, q7⟩, e7, h⟩ := bindE h
  have g7 := numS_ok g6.2 e7
  cases h
  omega
theorem toldS_ok {b : Nat → Int} {n k q q' : Nat} {f f' : Nat → Int} (hq : q ≤ n) (h : toldS b n k f q = .ok (f', q')) : q < q' ∧ q' ≤ n := by
  unfold toldS at h
  split at h
  · obtain ⟨⟨v0, q1⟩, e1, h⟩ := bindE h
    have g1 := byS_ok hq e1
    obtain ⟨⟨v1, q2⟩, e2, h⟩ := bindE h
    have g2 := byS_ok g1.2.1 e2
    obtain ⟨⟨v2, q3⟩, e3, h⟩ := bindE h
    have g3 := byS_ok g2.2.1 e3
    cases h; omega
  · obtain ⟨⟨v0, q1⟩, e1, h⟩ := bindE h
    have g1 := numS_ok hq e1
    cases h; omega
  · obtain ⟨⟨v0, q1⟩, e1, h⟩ := bindE h
    have g1 := numS_ok hq e1
    cases h; omega
  · obtain ⟨⟨v0, q1⟩, e1, h⟩ := bindE h
    have g1 := numS_ok hq e1
    cases h; omega
  · obtain ⟨⟨v0, q1⟩, e1, h⟩ := bindE h
    have g1 := numS_ok hq e1
    obtain ⟨⟨v1, q2⟩, e2, h⟩ := bindE h
    have g2 := byS_ok g1.2.1 e2
    cases h; omega
  · obtain ⟨⟨v0, q1⟩, e1, h⟩ := bindE h
    have g1 := plmS_ok hq e1
    obtain ⟨⟨v1, q2⟩, e2, h⟩ := bindE h
    have g2 := plmS_ok g1.2.1 e2
    cases h; omega
  · obtain ⟨⟨v0, q1⟩, e1, h⟩ := bindE h
    have g1 := byS_ok hq e1
    obtain ⟨⟨v1, q2⟩, e2, h⟩ := bindE h
    have g2 := byS_ok g1.2.1 e2
    cases h; omega
/-- the lines -/
theorem M_b49 {d : Nat} {b : Nat → Int} {n : Nat} {P0 : PS} {R : List PS} {Q : Option AV → List PS → Prop}
    : ∀ (F : Nat) (a : BA) (q : Nat) (P : PS), n - q < F → PrM false b n q P → AcM a P → Fr bkJ [9] bkA [20] P0 P →
      (∀ a' P', bookS b n F a q = .ok a' → Fr bkJ [9] bkA [20] P0 P' → (gI P' 0 2 = iI 0 ∧ gI P' 0 3 = iI (-1)) → AcM a' P' → cX12_book_157 (0, 0, 0, 0) (d + 4) 0 P' R Q) → (∀ e P', bookS b n F a q = .error e → Fr bkJ [9] bkA [20] P0 P' → FaM e P' → Q (some (vI (-1))) (P' :: R)) → cX12_book_49 (0, 0, 0, 0) (d + 4) P R Q := by
  intro F
  induction F with
  | zero => intro a q P h; omega
  | succ F ih =>
    intro a q P hF hp ha hf hok herr
    have hq := hp.2.2.2.1
    have h0 := hp.srt (k := 0) (by omega)
    have e0 : iI ((0 : Nat) : Int) = (0 : Int32) := rfl
    rw [e0] at h0
    refine gX12_book_49 ?_
    unfold fX12_book_49
    rw [hp.2.2.1, h0]
    refine ⟨fun c => absurd rfl c, fun _ => ⟨fun c => ⟨fun _ => hok a P (by unfold bookS; rw [if_pos c]) hf ⟨hp.2.2.1, hp.2.2.2.2⟩ ha, fun c => absurd (by decide) c⟩, fun c => ?_⟩⟩
    -- a line
    have frp : ∀ {Pa Pb : PS}, Fr bkJ [9] bkA [20] P0 Pa → Fr prI [9] [] [] Pa Pb → Fr bkJ [9] bkA [20] P0 Pb := fun h1 h2 => h1.trs (h2.mono (by simp [prI, bkJ]) (by simp) (by simp) (by simp))
    have bad : lineS b n a q = .error (badF (tok false b n q), ((tok false b n q).2.1 : Nat)) → Tri 179 (d + 4) [vR 0 0 0, vI (2 : Int32)] (P :: R) (fun r6 h6 => hx1 h6 fun P0_6 R_6 => rV r6 (cX12_book_111 (0, 0, 0, 0) (d + 4) P0_6 R_6 Q)) := fun hl => by
      refine M_wrong2 hp (fun P' f fa => ?_)
      dsimp only [hx1, rV]
      refine M_b111f fa (M_b49f fa (herr _ P' ?_ (frp hf (f.mono (by simp [prI]) (by simp) (by simp) (by simp))) fa))
      unfold bookS; rw [if_neg c, hl]; rfl
    have go : ∀ {a1 : BA} {q1 : Nat} {P1 : PS}, lineS b n a q = .ok (a1, q1) → q < q1 → PrM false b n q1 P1 → AcM a1 P1 → Fr bkJ [9] bkA [20] P0 P1 → cX12_book_111 (0, 0, 0, 0) (d + 4) P1 R Q := fun {a1 q1 P1} hl hlt p1 ac1 f1 => by
      refine M_sgn p1 (fun q2 P2 e2 f2 p2 => ?_) (fun e P2 e2 f2 fa2 => ?_)
      · have hq2 := sgnS_ok p1.2.2.2.1 e2
        have hun : ∀ X, bookS b n F a1 q2 = X → bookS b n (F + 1) a q = X := fun X hX => by
          conv => lhs; unfold bookS
          rw [if_neg c, hl]
          show (sgnS false b n 59 q1 >>= _) = _
          rw [e2]
          exact hX
        exact ih a1 q2 P2 (by omega) p2 (ac1.fr f2) (frp f1 f2) (fun a' P' h1 h2 h3 h4 => hok a' P' (hun _ h1) h2 h3 h4) (fun e P' h1 h2 h3 => herr e P' (hun _ h1) h2 h3)
      · refine M_b49f fa2 (herr e P2 ?_ (frp f1 f2) fa2)
        unfold bookS; rw [if_neg c, hl]
        show (sgnS false b n 59 q1 >>= _) = _
        rw [e2]; rfl
    have fail : ∀ {e : PE} {P1 : PS}, lineS b n a q = .error e → FaM e P1 → Fr bkJ [9] bkA [20] P0 P1 → cX12_book_111 (0, 0, 0, 0) (d + 4) P1 R Q := fun {e P1} hl fa f1 => by
      refine M_b111f fa (M_b49f fa (herr e P1 ?_ f1 fa))
      unfold bookS; rw [if_neg c, hl]; rfl
    refine M_lineOf hp ha.2.2 ?_
    dsimp only [hx1, rI]
    -- a line that is no STAR's
    have other : ¬ ((tok false b n q).1 = 1 ∧ (tok false b n q).2.2.2.2 = w_star ∧ a.1.length < 32) → ((iI (lineR (tok false b n q) a.2.2) < 0 → Tri 179 (d + 4) [vR 0 0 0, vI (2 : Int32)] (P :: R) (fun r6 h6 => hx1 h6 fun P0_6 R_6 => rV r6 (cX12_book_111 (0, 0, 0, 0) (d + 4) P0_6 R_6 Q))) ∧ (¬ iI (lineR (tok false b n q) a.2.2) < 0 → Tri 191 (d + 4) [vR 0 0 0, vI (iI (lineR (tok false b n q) a.2.2))] (P :: R) (fun r7 h7 => hx1 h7 fun P0_7 R_7 => rV r7 (cX12_book_111 (0, 0, 0, 0) (d + 4) P0_7 R_7 Q)))) := by
      intro hst
      by_cases hl : (tok false b n q).1 = 1 ∧ 0 ≤ lineK (tok false b n q).2.2.2.2 ∧ a.2.2 (lineK (tok false b n q).2.2.2.2).toNat = false
      · have hr : lineR (tok false b n q) a.2.2 = lineK (tok false b n q).2.2.2.2 := by unfold lineR; rw [if_pos hl]
        rw [hr]
        have hin := lineK_in (tok false b n q).2.2.2.2
        have hlS : ∀ X, (toldS b n (lineK (tok false b n q).2.2.2.2).toNat a.2.1 (tok false b n q).2.2.1 >>= fun (f, q1) => (.ok ((a.1, f, upB a.2.2 (lineK (tok false b n q).2.2.2.2).toNat true), q1) : Except PE (BA × Nat))) = X → lineS b n a q = X := fun X hX => by
          unfold lineS
          dsimp only
          rw [if_neg hst, if_pos hl]
          exact hX
        have hk0 := hl.2.1
        obtain ⟨k, hk⟩ : ∃ k : Nat, lineK (tok false b n q).2.2.2.2 = (k : Int) := ⟨(lineK (tok false b n q).2.2.2.2).toNat, by omega⟩
        rw [hk] at hin hlS ⊢
        rw [show ((k : Int)).toNat = k by omega] at hlS
        refine ⟨fun c => ?_, fun _ => ?_⟩
        · rw [show (0 : Int32) = iI 0 from rfl, iI_lt (by omega) (by omega) (by omega) (by omega)] at c; omega
        refine M_told (k := k) hp (by rw [hl.1]; decide) (by omega) ha.2.1 (fun f' q' P' e f p t hh => ?_) (fun e P' e1 f fa => ?_)
        · dsimp only [hx1, rV]
          have hnx := tok_nx (r := false) (b := b) hq (by rw [hl.1]; decide) (by rw [hl.1]; decide)
          have hlt := toldS_ok hnx.2 e
          refine go (hlS _ (by rw [e]; rfl)) (by omega) p ⟨?_, t, ha.2.2.up hh⟩ (hf.trs (f.mono (by simp [prI, bkJ]) (by simp) (by simp [tdA, bkA]) (by simp)))
          exact ha.1.fr f (by simp [prI]) (by simp [tdA]) (by simp [tdA]) (by simp [tdA]) (by simp)
        · dsimp only [hx1, rV]
          exact fail (hlS _ (by rw [e1]; rfl)) fa (hf.trs (f.mono (by simp [prI, bkJ]) (by simp) (by simp [tdA, bkA]) (by simp)))
      · have hr : lineR (tok false b n q) a.2.2 = -1 := by unfold lineR; rw [if_neg hl]
        rw [hr]
        refine ⟨fun _ => bad ?_, fun c => absurd (by decide) c⟩
        unfold lineS
        dsimp only
        rw [if_neg hst, if_neg hl]
    refine M_isWord (w := w_star) hp (by decide) lw_star.1 lw_star.2 (fun hw => ?_) (fun hw => ?_)
    · dsimp only [hx1, rI]
      rw [ha.1.1]
      have h32 := ha.1.2.1
      refine ⟨fun c => absurd c (by decide), fun _ => ⟨fun c => ?_, fun c => ?_⟩⟩
      · rw [iI_lit, iI_le (by omega) (by omega) (by omega) (by omega)] at c
        exact other (fun q => by omega)
      · rw [iI_lit, iI_le (by omega) (by omega) (by omega) (by omega)] at c
        have hst : (tok false b n q).1 = 1 ∧ (tok false b n q).2.2.2.2 = w_star ∧ a.1.length < 32 := ⟨hw.1, hw.2, by omega⟩
        have hlS : ∀ X, (starS b n a.1 (tok false b n q).2.2.1 >>= fun (l, q1) => (.ok ((l, a.2.1, a.2.2), q1) : Except PE (BA × Nat))) = X → lineS b n a q = X := fun X hX => by
          unfold lineS
          dsimp only
          rw [if_pos hst]
          exact hX
        refine M_readStar hp (by rw [hw.1]; decide) ha.1 (by omega) (fun l' q' P' e f p s' => ?_) (fun e P' e1 f fa => ?_)
        · dsimp only [hx1, rV]
          have hnx := tok_nx (r := false) (b := b) hq (by rw [hw.1]; decide) (by rw [hw.1]; decide)
          have hlt := starS_ok hnx.2 e
          exact go (a1 := (l', a.2.1, a.2.2)) (hlS _ (by rw [e]; rfl)) (by omega) p ⟨s', ha.2.1.fr f (by simp [stA]), ha.2.2.fr f (by simp [stA])⟩ (hf.trs (f.mono (by simp [stI, bkJ]) (by simp) (by simp [stA, bkA]) (by simp)))
        · dsimp only [hx1, rV]
          exact fail (hlS _ (by rw [e1]; rfl)) fa (hf.trs (f.mono (by simp [stI, bkJ]) (by simp) (by simp [stA, bkA]) (by simp)))
    · dsimp only [hx1, rI]
      exact ⟨fun _ => other (fun q => hw ⟨q.1, q.2.1⟩), fun c => absurd rfl c⟩
