def HsM (f : Nat → Bool) (P : PS) : Prop := ∀ k, k < 12 → gA P 0 19 k = if f k = true then 1 else 0
/-- which line may begin here, or -1 -/
def lineR (t : TK) (f : Nat → Bool) : Int := if t.1 = 1 ∧ 0 ≤ lineK t.2.2.2.2 ∧ f (lineK t.2.2.2.2).toNat = false then lineK t.2.2.2.2 else -1
theorem lineK_in (l : List Int) : lineK l = -1 ∨ lineK l = 0 ∨ lineK l = 3 ∨ lineK l = 4 ∨ lineK l = 5 ∨ lineK l = 6 ∨ lineK l = 8 ∨ lineK l = 10 := by
  unfold lineK
  repeat' split
  all_goals omega
theorem M_line102 {d : Nat} {k : Int} {f : Nat → Bool} {P : PS} {R : List PS} {Q : Option AV → List PS → Prop} (hk : k = -1 ∨ (0 ≤ k ∧ k < 12)) (hh : HsM f P) (h : Q (some (vI (iI (if 0 ≤ k ∧ f k.toNat = false then k else -1)))) (P :: R)) : cX12_lineOf_102 (0, 0, 0, 0) d (iI k) P R Q := by
  refine gX12_lineOf_102 ?_
  unfold fX12_lineOf_102
  rw [show (0 : Int32) = iI 0 from rfl, iI_lt (by omega) (by omega) (by omega) (by omega)]
  refine ⟨fun c => ?_, fun c => ⟨?_, ?_⟩⟩
  · rw [if_neg (by omega)] at h; exact h
  · rw [iI_in (by omega) (by omega)]; omega
  · rw [iI_cl (by omega) (by omega), hh k.toNat (by omega)]
    cases hf : f k.toNat with
    | true =>
      rw [hf, if_neg (fun q => by cases q.2)] at h
      exact ⟨fun c => absurd c (by decide), fun _ => h⟩
    | false =>
      rw [hf, if_pos ⟨by omega, rfl⟩] at h
      exact ⟨fun _ => h, fun c => absurd rfl c⟩
theorem M_lineOf {d : Nat} {b : Nat → Int} {n q : Nat} {f : Nat → Bool} {P : PS} {R : List PS} {Q : Option AV → List PS → Prop} (hp : PrM false b n q P) (hh : HsM f P) (h : Q (some (vI (iI (lineR (tok false b n q) f)))) (P :: R)) : Tri 189 (d + 1) [vR 0 0 0] (P :: R) Q := by
  refine enX12_lineOf ?_
  unfold fX12_lineOf_0
  have key : ∀ k : Int, (tok false b n q).1 = 1 → lineK (tok false b n q).2.2.2.2 = k → 0 ≤ k → k < 12 → cX12_lineOf_102 (0, 0, 0, 0) d (iI k) P R Q := fun k h1 hk h0 h12 => by
    refine M_line102 (Or.inr ⟨h0, h12⟩) hh ?_
    unfold lineR at h
    rw [hk] at h
    by_cases c : 0 ≤ k ∧ f k.toNat = false
    · rw [if_pos ⟨h1, c⟩] at h; rw [if_pos c]; exact h
    · rw [if_neg (fun q => c q.2)] at h; rw [if_neg c]; exact h
  have wd : ∀ {w : List Int} {c : Int64} {Q' : Option AV → List PS → Prop}, c = iL (p256 w) → lets w ∧ w.length ≤ 8 → ((tok false b n q).1 = 1 ∧ (tok false b n q).2.2.2.2 = w → Q' (some (vI (iI 1))) (P :: R)) → (¬ ((tok false b n q).1 = 1 ∧ (tok false b n q).2.2.2.2 = w) → Q' (some (vI (iI 0))) (P :: R)) → Tri 181 d [vR 0 0 0, vL c] (P :: R) Q' := fun h1 h2 h3 h4 => M_isWord hp h1 h2.1 h2.2 h3 h4
  refine wd (w := w_eye) (by decide) lw_eye (fun c => ?_) (fun c1 => ?_)
  · dsimp only [hx1, rI]
    exact ⟨fun q => absurd q (by decide), fun _ => key 0 c.1 (by rw [c.2]; decide) (by omega) (by omega)⟩
  dsimp only [hx1, rI]
  refine ⟨fun _ => ?_, fun q => absurd rfl q⟩
  refine wd (w := w_noise) (by decide) lw_noise (fun c => ?_) (fun c2 => ?_)
  · dsimp only [hx1, rI]
    exact ⟨fun q => absurd q (by decide), fun _ => key 3 c.1 (by rw [c.2]; decide) (by omega) (by omega)⟩
  dsimp only [hx1, rI]
  refine ⟨fun _ => ?_, fun q => absurd rfl q⟩
  refine wd (w := w_off) (by decide) lw_off (fun c => ?_) (fun c3 => ?_)
  · dsimp only [hx1, rI]
    exact ⟨fun q => absurd q (by decide), fun _ => key 4 c.1 (by rw [c.2]; decide) (by omega) (by omega)⟩
  dsimp only [hx1, rI]
  refine ⟨fun _ => ?_, fun q => absurd rfl q⟩
  refine wd (w := w_bar) (by decide) lw_bar (fun c => ?_) (fun c4 => ?_)
  · dsimp only [hx1, rI]
    exact ⟨fun q => absurd q (by decide), fun _ => key 5 c.1 (by rw [c.2]; decide) (by omega) (by omega)⟩
  dsimp only [hx1, rI]
  refine ⟨fun _ => ?_, fun q => absurd rfl q⟩
  refine wd (w := w_step) (by decide) lw_step (fun c => ?_) (fun c5 => ?_)
  · dsimp only [hx1, rI]
    exact ⟨fun q => absurd q (by decide), fun _ => key 6 c.1 (by rw [c.2]; decide) (by omega) (by omega)⟩
  dsimp only [hx1, rI]
  refine ⟨fun _ => ?_, fun q => absurd rfl q⟩
  refine wd (w := w_lean) (by decide) lw_lean (fun c => ?_) (fun c6 => ?_)
  · dsimp only [hx1, rI]
    exact ⟨fun q => absurd q (by decide), fun _ => key 8 c.1 (by rw [c.2]; decide) (by omega) (by omega)⟩
  dsimp only [hx1, rI]
  refine ⟨fun _ => ?_, fun q => absurd rfl q⟩
  refine wd (w := w_room) (by decide) lw_room (fun c => ?_) (fun c7 => ?_)
  · dsimp only [hx1, rI]
    exact ⟨fun q => absurd q (by decide), fun _ => key 10 c.1 (by rw [c.2]; decide) (by omega) (by omega)⟩
  dsimp only [hx1, rI]
  refine ⟨fun _ => ?_, fun q => absurd rfl q⟩
  refine M_line102 (k := -1) (Or.inl rfl) hh ?_
  rw [if_neg (by omega)]
  unfold lineR at h
  rw [if_neg] at h
  · exact h
  · intro hq
    have hk : lineK (tok false b n q).2.2.2.2 = -1 := by
      unfold lineK
      rw [if_neg (fun e => c1 ⟨hq.1, e⟩), if_neg (fun e => c2 ⟨hq.1, e⟩), if_neg (fun e => c3 ⟨hq.1, e⟩), if_neg (fun e => c4 ⟨hq.1, e⟩), if_neg (fun e => c5 ⟨hq.1, e⟩), if_neg (fun e => c6 ⟨hq.1, e⟩), if_neg (fun e => c7 ⟨hq.1, e⟩)]
    have := hq.2.1
    omega
/-- STARS that were told so far -/
def StOK (s : SR) : Prop := (lets s.1 ∧ s.1.length ≤ 8) ∧ (0 ≤ s.2.1 ∧ s.2.1 ≤ 999) ∧ (0 ≤ s.2.2.1 ∧ s.2.2.1 ≤ 999) ∧ 1 ≤ s.2.2.2 ∧ s.2.2.2 ≤ 99
def nthS (l : List SR) (i : Nat) : SR := l.getD i ([], 0, 0, 0)
def SsM (l : List SR) (P : PS) : Prop := gI P 0 21 = iI l.length ∧ l.length ≤ 32 ∧ (∀ s ∈ l, StOK s) ∧ ∀ i, i < l.length → gB P 0 20 i = iL (p256 (nthS l i).1) ∧ gA P 0 13 i = iI (nthS l i).2.1 ∧ gA P 0 14 i = iI (nthS l i).2.2.1 ∧ gA P 0 15 i = iI (nthS l i).2.2.2
theorem SsM.fr {l : List SR} {P P' : PS} {is ls as bs : List Nat} (h : SsM l P) (hf : Fr is ls as bs P P') (h1 : 21 ∉ is) (h2 : 13 ∉ as) (h3 : 14 ∉ as) (h4 : 15 ∉ as) (h5 : 20 ∉ bs) : SsM l P' :=
  ⟨by rw [hf.2.1 _ h1]; exact h.1, h.2.1, h.2.2.1, fun i hi => by rw [hf.2.2.2.2 _ _ h5, hf.2.2.2.1 _ _ h2, hf.2.2.2.1 _ _ h3, hf.2.2.2.1 _ _ h4]; exact h.2.2.2 i hi⟩
theorem nthS_mem {l : List SR} {i : Nat} (h : i < l.length) : nthS l i ∈ l := by
  unfold nthS; rw [List.getD_eq_getElem?_getD, List.getElem?_eq_getElem h]; exact List.getElem_mem h
theorem nthS_app {l : List SR} {s : SR} {i : Nat} : nthS (l ++ [s]) i = if i < l.length then nthS l i else if i = l.length then s else ([], 0, 0, 0) := by
  unfold nthS
  rw [List.getD_eq_getElem?_getD, List.getD_eq_getElem?_getD]
  by_cases h : i < l.length
  · rw [if_pos h, List.getElem?_append_left h]
  · rw [if_neg h, List.getElem?_append_right (by omega)]
    by_cases e : i = l.length
    · subst e; simp
    · rw [if_neg e, List.getElem?_eq_none (by simp; omega)]; rfl
/-- is any of the first i ..: as loops find it -/
theorem any_nth {l : List SR} {p : SR → Bool} : l.any p = true ↔ ∃ i, i < l.length ∧ p (nthS l i) = true := by
  rw [List.any_eq_true]
  constructor
  · rintro ⟨s, hs, hp⟩
    obtain ⟨i, hi, rfl⟩ := List.getElem_of_mem hs
    exact ⟨i, hi, by unfold nthS; rw [List.getD_eq_getElem?_getD, List.getElem?_eq_getElem hi]; exact hp⟩
  · rintro ⟨i, hi, hp⟩
    exact ⟨_, nthS_mem hi, hp⟩
