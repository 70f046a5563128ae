/-! ===== what a BOOK tells lies in its bounds ===== -/
theorem toldS_fok {b : Nat → Int} {n k q q' : Nat} {f f' : Nat → Int} (hq : q ≤ n) (hF : FOK f) (h : toldS b n k f q = .ok (f', q')) : FOK f' := by
  obtain ⟨h0, h1, h2, h3, h4, h5, h6, h7, h8, h9, h10, h11⟩ := hF
  unfold toldS at h
  split at h
  · obtain ⟨⟨v0, q1⟩, e1, h⟩ := bindE h
    have g1 := byS_ok hq e1
    obtain ⟨⟨v1, q2⟩, e2, h⟩ := bindE h
    have g2 := byS_ok g1.2.1 e2
    obtain ⟨⟨v2, q3⟩, e3, h⟩ := bindE h
    have g3 := byS_ok g2.2.1 e3
    cases h
    exact ⟨g1.2.2, g2.2.2, g3.2.2, h3, h4, h5, h6, h7, h8, h9, h10, h11⟩
  · obtain ⟨⟨v0, q1⟩, e1, h⟩ := bindE h
    have g1 := numS_ok hq e1
    cases h
    exact ⟨h0, h1, h2, g1.2.2, h4, h5, h6, h7, h8, h9, h10, h11⟩
  · obtain ⟨⟨v0, q1⟩, e1, h⟩ := bindE h
    have g1 := numS_ok hq e1
    cases h
    exact ⟨h0, h1, h2, h3, g1.2.2, h5, h6, h7, h8, h9, h10, h11⟩
  · obtain ⟨⟨v0, q1⟩, e1, h⟩ := bindE h
    have g1 := numS_ok hq e1
    cases h
    exact ⟨h0, h1, h2, h3, h4, g1.2.2, h6, h7, h8, h9, h10, h11⟩
  · obtain ⟨⟨v0, q1⟩, e1, h⟩ := bindE h
    have g1 := numS_ok hq e1
    obtain ⟨⟨v1, q2⟩, e2, h⟩ := bindE h
    have g2 := byS_ok g1.2.1 e2
    cases h
    exact ⟨h0, h1, h2, h3, h4, h5, g1.2.2, g2.2.2, h8, h9, h10, h11⟩
  · obtain ⟨⟨v0, q1⟩, e1, h⟩ := bindE h
    have g1 := plmS_ok hq e1
    obtain ⟨⟨v1, q2⟩, e2, h⟩ := bindE h
    have g2 := plmS_ok g1.2.1 e2
    cases h
    exact ⟨h0, h1, h2, h3, h4, h5, h6, h7, g1.2.2, g2.2.2, h10, h11⟩
  · obtain ⟨⟨v0, q1⟩, e1, h⟩ := bindE h
    have g1 := byS_ok hq e1
    obtain ⟨⟨v1, q2⟩, e2, h⟩ := bindE h
    have g2 := byS_ok g1.2.1 e2
    cases h
    exact ⟨h0, h1, h2, h3, h4, h5, h6, h7, h8, h9, g1.2.2, g2.2.2⟩
theorem lineS_fok {b : Nat → Int} {n q q' : Nat} {a a' : BA} (hq : q ≤ n) (hF : FOK a.2.1) (h : lineS b n a q = .ok (a', q')) : FOK a'.2.1 ∧ q' ≤ n := by
  unfold lineS at h
  dsimp only at h
  split at h
  · rename_i c
    have g := tok_nx hq (by rw [c.1]; decide) (by rw [c.1]; decide)
    obtain ⟨⟨l, q1⟩, e1, h⟩ := bindE h
    have g1 := starS_ok g.2 e1
    cases h
    exact ⟨hF, g1.2⟩
  · split at h
    · rename_i c
      have g := tok_nx hq (by rw [c.1]; decide) (by rw [c.1]; decide)
      obtain ⟨⟨f, q1⟩, e1, h⟩ := bindE h
      have g1 := toldS_ok g.2 e1
      have g2 := toldS_fok g.2 hF e1
      cases h
      exact ⟨g2, g1.2⟩
    · cases h
theorem bookS_fok {b : Nat → Int} {n : Nat} : ∀ (F : Nat) (a a' : BA) (q : Nat), q ≤ n → FOK a.2.1 → bookS b n F a q = .ok a' → FOK a'.2.1
  | 0, a, a', q, hq, hF, h => by cases h
  | F + 1, a, a', q, hq, hF, h => by
    unfold bookS at h
    split at h
    · cases h; exact hF
    · obtain ⟨⟨a1, q1⟩, e1, h⟩ := bindE h
      have g1 := lineS_fok hq hF e1
      obtain ⟨q2, e2, h⟩ := bindE h
      have g2 := sgnS_ok g1.2 e2
      exact bookS_fok F a1 a' q2 g2.2 g1.1 h
theorem fok_plain : FOK plain := by unfold FOK; decide
/-! ===== what the Model keeps ===== -/
abbrev kmI : List Nat := [1, 2, 3, 22, 28, 29, 83, 84]
abbrev kmA : List Nat := [0, 12, 16, 17, 18, 27, 23, 25, 26, 87, 88, 89, 90, 91, 92, 93, 73, 74, 75, 76]
def SM (P P' : PS) : Prop := (∀ a, a ∈ kmI → gI P' 0 a = gI P 0 a) ∧ ∀ a, a ∈ kmA → ∀ i, gA P' 0 a i = gA P 0 a i
theorem Fr.sm {is ls as bs : List Nat} {P P' : PS} (h : Fr is ls as bs P P') (h1 : (kmI.all fun a => !(is.elem a)) = true) (h2 : (kmA.all fun a => !(as.elem a)) = true) : SM P P' := by
  refine ⟨fun a ha => h.2.1 a (fun g => ?_), fun a ha i => h.2.2.2.1 a i (fun g => ?_)⟩
  · have := List.all_eq_true.mp h1 a ha
    rw [List.elem_eq_true_of_mem g] at this; cases this
  · have := List.all_eq_true.mp h2 a ha
    rw [List.elem_eq_true_of_mem g] at this; cases this
theorem SM.rf {P : PS} : SM P P := ⟨fun _ _ => rfl, fun _ _ _ => rfl⟩
theorem TpM.sm {b : Nat → Int} {n : Nat} {P P' : PS} (h : TpM b n P) (s : SM P P') : TpM b n P' := ⟨by rw [s.1 _ (by simp)]; exact h.1, h.2.1, fun i hi => by rw [s.2 _ (by simp)]; exact h.2.2 i hi⟩
theorem BoM.sm {l : List SR} {f : Nat → Int} {P P' : PS} (h : BoM l f P) (s : SM P P') : BoM l f P' := ⟨⟨by rw [s.1 _ (by simp)]; exact h.1.1, h.1.2.1, h.1.2.2.1, fun i hi => by rw [s.2 _ (by simp), s.2 _ (by simp), s.2 _ (by simp)]; exact h.1.2.2.2 i hi⟩, fun k hk => by rw [s.2 _ (by simp)]; exact h.2 k hk⟩
theorem PcM.sm {p w : Nat} {z : Int} {L : Nat → Int} {P P' : PS} (h : PcM p w z L P) (s : SM P P') : PcM p w z L P' := ⟨by rw [s.2 _ (by simp)]; exact h.1, by rw [s.2 _ (by simp)]; exact h.2.1, fun r c hr hc => by rw [s.2 _ (by simp)]; exact h.2.2 r c hr hc⟩
theorem FpM.sm {g : Nat → Nat → Bool} {P P' : PS} (h : FpM g P) (s : SM P P') : FpM g P' := fun c r hc hr => by rw [s.2 _ (by simp)]; exact h c r hc hr
theorem StM.sm {y : SY} {w : Nat} {z t : Int} {P P' : PS} (h : StM y w z t P) (s : SM P P') : StM y w z t P' := ⟨by rw [s.1 _ (by simp)]; exact h.1, h.2.1, by rw [s.1 _ (by simp)]; exact h.2.2.1, h.2.2.2.1, h.2.2.2.2.1.sm s, fun q hq => by
  have g := h.2.2.2.2.2 q hq
  exact ⟨g.1.sm s, g.2.1, by rw [s.2 _ (by simp)]; exact g.2.2.1, by rw [s.2 _ (by simp)]; exact g.2.2.2.1, g.2.2.2.2⟩⟩
theorem RlM.sm {rs : List RLt} {u : Nat} {P P' : PS} (h : RlM rs u P) (s : SM P P') : RlM rs u P' := ⟨by rw [s.1 _ (by simp)]; exact h.1, by rw [s.1 _ (by simp)]; exact h.2.1, fun i hi => by rw [s.2 _ (by simp), s.2 _ (by simp)]; exact h.2.2.1 i hi, fun r hr => by rw [s.2 _ (by simp)]; exact h.2.2.2.1 r hr, fun r hr h0 => by rw [s.2 _ (by simp)]; exact h.2.2.2.2 r hr h0⟩
