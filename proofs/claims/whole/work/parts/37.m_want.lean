/-! ===== the Model: what is wanted ===== -/
abbrev prI : List Nat := [4, 6, 7, 8, 2, 3]
/-- no FAULT so far, the TOKEN read last begins its search at q -/
def PrM (r : Bool) (b : Nat → Int) (n q : Nat) (P : PS) : Prop := TxM r b n P ∧ TkM (tok r b n q) P ∧ gI P 0 2 = iI 0 ∧ q ≤ n ∧ gI P 0 3 = iI (-1)
def FaM (e : PE) (P : PS) : Prop := gI P 0 2 = iI e.1 ∧ gI P 0 3 = iI e.2 ∧ 1 ≤ e.1 ∧ e.1 ≤ 6
theorem PrM.srt {r : Bool} {b : Nat → Int} {n q : Nat} {P : PS} (h : PrM r b n q P) {k : Nat} (hk : k < 4) : gI P 0 6 = iI k ↔ (tok r b n q).1 = k := by
  have ht := tok_ok r b h.2.2.2.1
  have hb := srt_bd ht
  rw [h.2.1.1, iI_eq (by omega) (by omega) (by omega) (by omega)]
  exact srt_k ht hk
theorem PrM.sgn {r : Bool} {b : Nat → Int} {n q : Nat} {P : PS} (h : PrM r b n q P) {c : Int} (hc : 5 ≤ c) (hc' : c < 256) : gI P 0 6 = iI c ↔ (tok r b n q).1 = 4 ∧ (tok r b n q).2.2.2.1 = c := by
  have ht := tok_ok r b h.2.2.2.1
  have hb := srt_bd ht
  rw [h.2.1.1, iI_eq (by omega) (by omega) (by omega) (by omega)]
  exact srt_c ht hc
theorem badF_bd (t : TK) : 1 ≤ badF t ∧ badF t ≤ 2 := by unfold badF; split <;> omega
theorem M_wrong {d : Nat} {r : Bool} {b : Nat → Int} {n q : Nat} {w : Int} {P : PS} {R : List PS} {Q : Option AV → List PS → Prop} (hp : PrM r b n q P) (hw : 1 ≤ w ∧ w ≤ 6)
    (h : ∀ P', Fr [2, 3] [] [] [] P P' → FaM (if (tok r b n q).1 = 3 then 1 else w, ((tok r b n q).2.1 : Nat)) P' → Q none (P' :: R)) : Tri 179 d [vR 0 0 0, vI (iI w)] (P :: R) Q := by
  refine enX12_wrong ?_
  unfold fX12_wrong_0
  have h3 := hp.srt (k := 3) (by omega)
  have e3 : iI ((3 : Nat) : Int) = (3 : Int32) := rfl
  rw [e3] at h3
  rw [h3, hp.2.2.1]
  refine ⟨fun _ => ⟨fun c => h _ ((Fr.rf.sI (by simp)).sI (by simp)) ⟨?_, ?_, ?_⟩, fun c => h _ ((Fr.rf.sI (by simp)).sI (by simp)) ⟨?_, ?_, ?_⟩⟩, fun c => absurd (by decide) c⟩
  · rw [if_neg c]; rfl
  · exact hp.2.1.2.1
  · rw [if_neg c]; exact hw
  · rw [if_pos c]; rfl
  · exact hp.2.1.2.1
  · rw [if_pos c]; exact ⟨Int.le_refl 1, (by decide : (1 : Int) ≤ 6)⟩
theorem M_wrong2 {d : Nat} {r : Bool} {b : Nat → Int} {n q : Nat} {P : PS} {R : List PS} {Q : Option AV → List PS → Prop} (hp : PrM r b n q P)
    (h : ∀ P', Fr [2, 3] [] [] [] P P' → FaM (badF (tok r b n q), ((tok r b n q).2.1 : Nat)) P' → Q none (P' :: R)) : Tri 179 d [vR 0 0 0, vI (2 : Int32)] (P :: R) Q :=
  M_wrong (w := 2) hp (by omega) h
theorem M_next {d : Nat} {r : Bool} {b : Nat → Int} {n q : Nat} {P : PS} {R : List PS} {Q : Option AV → List PS → Prop} (hp : PrM r b n q P) (h3 : (tok r b n q).1 ≠ 3)
    (h : ∀ P', Fr tkI [9] [] [] P P' → PrM r b n (tok r b n q).2.2.1 P' → Q none (P' :: R)) : Tri 178 (d + 1) [vR 0 0 0] (P :: R) Q := by
  have hle := ((tok_ok r b hp.2.2.2.1).2.2.2.1 h3).1
  exact M_token hp.1 (hp.2.1.2.2.2.2 h3) hle (fun P' hf ht => h P' hf ⟨hp.1.fr hf (by simp [tkI]) (by simp [tkI]) (by simp), ht, by rw [hf.2.1 _ (by simp [tkI])]; exact hp.2.2.1, hle, by rw [hf.2.1 _ (by simp [tkI])]; exact hp.2.2.2.2⟩)
theorem M_isWord {d : Nat} {r : Bool} {b : Nat → Int} {n q : Nat} {w : List Int} {c : Int64} {P : PS} {R : List PS} {Q : Option AV → List PS → Prop} (hp : PrM r b n q P) (hw : c = iL (p256 w)) (hl : lets w) (h8 : w.length ≤ 8)
    (hy : (tok r b n q).1 = 1 ∧ (tok r b n q).2.2.2.2 = w → Q (some (vI (iI 1))) (P :: R)) (hn : ¬ ((tok r b n q).1 = 1 ∧ (tok r b n q).2.2.2.2 = w) → Q (some (vI (iI 0))) (P :: R)) : Tri 181 d [vR 0 0 0, vL c] (P :: R) Q := by
  refine enX12_isWord ?_
  unfold fX12_isWord_0
  have h1 := hp.srt (k := 1) (by omega)
  have e1 : iI ((1 : Nat) : Int) = (1 : Int32) := rfl
  rw [e1] at h1
  rw [h1, lcmp_eq]
  refine ⟨fun c1 => ⟨Or.inl rfl, hn (fun q => c1 q.1)⟩, fun c1 => ?_⟩
  have hok := (tok_ok r b hp.2.2.2.1).2.2.2.2.1 c1
  rw [hp.2.1.2.2.2.1 c1, hw, p256_eq hok.1 hok.2 hl h8]
  exact ⟨fun c2 => ⟨Or.inl rfl, hn (fun q => c2 q.2)⟩, fun c2 => ⟨Or.inr rfl, hy ⟨c1, c2⟩⟩⟩
theorem M_want {d : Nat} {r : Bool} {b : Nat → Int} {n q : Nat} {w : List Int} {c : Int64} {P : PS} {R : List PS} {Q : Option AV → List PS → Prop} (hp : PrM r b n q P) (hw : c = iL (p256 w)) (hl : lets w) (h8 : w.length ≤ 8)
    (hy : ∀ q' P', wantS r b n w q = .ok q' → Fr prI [9] [] [] P P' → PrM r b n q' P' → Q none (P' :: R)) (hn : ∀ e P', wantS r b n w q = .error e → Fr prI [9] [] [] P P' → FaM e P' → Q none (P' :: R)) : Tri 183 (d + 2) [vR 0 0 0, vL c] (P :: R) Q := by
  refine enX12_want ?_
  unfold fX12_want_0
  rw [hp.2.2.1]
  refine ⟨fun _ => M_isWord hp hw hl h8 (fun c1 => ?_) (fun c1 => ?_), fun c1 => absurd (by decide) c1⟩
  · dsimp only [hx1, rI]
    refine ⟨fun _ => M_next hp (by rw [c1.1]; decide) (fun P' hf hp' => ?_), fun c2 => absurd c2 (by decide)⟩
    exact hy _ P' (by unfold wantS; rw [if_pos c1]) (hf.mono (by simp [tkI, prI]) (by simp) (by simp) (by simp)) hp'
  · dsimp only [hx1, rI]
    refine ⟨fun c2 => absurd rfl c2, fun _ => M_wrong2 hp (fun P' hf hfa => ?_)⟩
    exact hn _ P' (by unfold wantS; rw [if_neg c1]) (hf.mono (by simp [prI]) (by simp) (by simp) (by simp)) hfa
/-- behind a FAULT nothing is done -/
theorem M_want_f {d : Nat} {c : Int64} {e : PE} {P : PS} {R : List PS} {Q : Option AV → List PS → Prop} (hf : FaM e P) (h : Q none (P :: R)) : Tri 183 (d + 1) [vR 0 0 0, vL c] (P :: R) Q := by
  refine enX12_want ?_
  unfold fX12_want_0
  rw [hf.1, show (0 : Int32) = iI 0 from rfl, iI_le (by have := hf.2.2; omega) (by have := hf.2.2; omega) (by omega) (by omega)]
  exact ⟨fun c => by have := hf.2.2; omega, fun _ => h⟩
theorem M_num {d : Nat} {r : Bool} {b : Nat → Int} {n q : Nat} {lo hi : Int} {P : PS} {R : List PS} {Q : Option AV → List PS → Prop} (hp : PrM r b n q P) (hlo : 0 ≤ lo ∧ lo ≤ 10000) (hhi : 0 ≤ hi ∧ hi ≤ 10000)
    (hy : ∀ v q' P', numS r b n lo hi q = .ok (v, q') → Fr prI [9] [] [] P P' → PrM r b n q' P' → Q (some (vI (iI v))) (P' :: R)) (hn : ∀ x e P', numS r b n lo hi q = .error e → Fr prI [9] [] [] P P' → FaM e P' → Q (some (vI x)) (P' :: R)) : Tri 184 (d + 2) [vR 0 0 0, vI (iI lo), vI (iI hi)] (P :: R) Q := by
  refine enX12_toldNumber ?_
  unfold fX12_toldNumber_0
  have h2 := hp.srt (k := 2) (by omega)
  have e2 : iI ((2 : Nat) : Int) = (2 : Int32) := rfl
  rw [e2] at h2
  have hfz : ∀ {e : PE} {P' : PS}, FaM e P' → ¬ gI P' 0 2 = 0 := by
    intro e P' hfa
    rw [hfa.1, show (0 : Int32) = iI 0 from rfl, iI_eq (by have := hfa.2.2; omega) (by have := hfa.2.2; omega) (by omega) (by omega)]
    have := hfa.2.2; omega
  simp only [hp.2.2.1, h2]
  refine ⟨fun _ => ⟨fun c2 => ?_, fun c2 => ?_⟩, fun c1 => absurd (by decide) c1⟩
  · have hv := (tok_ok r b hp.2.2.2.1).2.2.2.2.2.1 c2
    have hnum := hp.2.1.2.2.1 c2
    rw [hnum]
    generalize hvv : (tok r b n q).2.2.2.1 = v at *
    rw [iI_lt (by omega) (by omega) (by omega) (by omega), iI_le (by omega) (by omega) (by omega) (by omega)]
    have herr : (v < lo ∨ hi < v) → Tri 179 (d + 1) [vR 0 0 0, vI (4 : Int32)] (P :: R) (fun r1 h1 => hx1 h1 fun P0_1 R_1 => rV r1 ((¬ (gI P0_1 0 2) = 0 → Q (some (vI (gI P0_1 0 8))) (P0_1 :: R_1)) ∧ ((gI P0_1 0 2) = 0 → Tri 178 (d + 1) [vR 0 0 0] (P0_1 :: R_1) (fun r2 h2 => hx1 h2 fun P0_2 R_2 => rV r2 (Q (some (vI (gI P0_1 0 8))) (P0_2 :: R_2))))) ) := by
      intro hb
      refine M_wrong (w := 4) hp (by omega) (fun P' hf hfa => ?_)
      dsimp only [hx1, rV]
      rw [if_neg (by rw [c2]; decide)] at hfa
      exact ⟨fun _ => hn _ _ P' (by unfold numS; rw [if_pos c2, hvv, if_pos hb]) (hf.mono (by simp [prI]) (by simp) (by simp) (by simp)) hfa, fun c => absurd c (hfz hfa)⟩
    refine ⟨fun c3 => herr (Or.inl c3), fun c3 => ⟨fun c4 => ⟨fun c => absurd rfl c, fun _ => M_next hp (by rw [c2]; decide) (fun P' hf hp' => ?_)⟩, fun c4 => herr (Or.inr (by omega))⟩⟩
    exact hy _ _ P' (by unfold numS; rw [if_pos c2, hvv, if_neg (by omega)]) (hf.mono (by simp [tkI, prI]) (by simp) (by simp) (by simp)) hp'
  · refine M_wrong2 hp (fun P' hf hfa => ?_)
    dsimp only [hx1, rV]
    exact ⟨fun _ => hn _ _ P' (by unfold numS; rw [if_neg c2]) (hf.mono (by simp [prI]) (by simp) (by simp) (by simp)) hfa, fun c => absurd c (hfz hfa)⟩
theorem M_num_f {d : Nat} {a c : Int32} {e : PE} {P : PS} {R : List PS} {Q : Option AV → List PS → Prop} (hf : FaM e P) (h : Q (some (vI 0)) (P :: R)) : Tri 184 (d + 1) [vR 0 0 0, vI a, vI c] (P :: R) Q := by
  refine enX12_toldNumber ?_
  unfold fX12_toldNumber_0
  rw [hf.1]
  have : ¬ iI e.1 ≤ 0 := by
    rw [show (0 : Int32) = iI 0 from rfl, iI_le (by have := hf.2.2; omega) (by have := hf.2.2; omega) (by omega) (by omega)]
    have := hf.2.2; omega
  exact ⟨fun c => absurd c this, fun _ => h⟩
