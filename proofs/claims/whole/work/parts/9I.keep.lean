/-! ===== what stays when a picture is named ===== -/
def InjP (y : SY) (P6 : PS) : Prop := ∀ q q', q < y.1 → q' < y.1 → ∀ i, gR P6 0 0 q = some i → gR P6 0 0 q' = some i → q = q'
theorem PiC.any {i j : Nat} {L : Nat → Int} {z : Int} {P P' : PS} (h : PiC j L z P) (hf : frP i P P') : PiC j L z P' := by
  by_cases c : j = i
  · subst c; exact h.fro hf
  · have o := hf.1.2 j c
    refine ⟨?_, fun e he => ?_, fun e he => ?_, fun r c hr hc => ?_, ?_⟩
    · rw [o.1]; exact h.1
    · rw [o.2.2.1, o.2.2.1, o.2.2.1, o.2.2.1]; exact h.2.1 e he
    · rw [o.1]; exact h.2.2.1 e he
    · rw [o.2.2.1]; exact h.2.2.2.1 r c hr hc
    · rw [o.1]; exact h.2.2.2.2
theorem StC.any {i : Nat} {y : SY} {z t : Int} {P3 P3' P6 : PS} (h : StC 0 y z t P3 P6) (hf : frP i P3 P3') : StC 0 y z t P3' P6 := ⟨h.1, h.2.1, h.2.2.1, h.2.2.2.1, fun q hq => by
  obtain ⟨a, b, j, c, e⟩ := h.2.2.2.2 q hq
  exact ⟨a, b, j, c, e.any hf⟩⟩
theorem NcC.oth {i j : Nat} {X Y : Nat → Int} {l : List SR} {o : Int} {A : Nat} {P P' : PS} (h : NcC j X Y l o A P) (hf : frP i P P') (c : j ≠ i) : NcC j X Y l o A P' := by
  have g := hf.1.2 j c
  refine ⟨⟨?_, h.1.2.1, fun e he => ?_⟩, ?_, fun r hr p hp => ?_⟩
  · rw [g.1]; exact h.1.1
  · rw [g.2.2.2.1]; exact h.1.2.2 e he
  · rw [g.1]; exact h.2.1
  · rw [g.2.2.1]; exact h.2.2 r hr p hp
theorem CaC.oth {i j : Nat} {L : Nat → Int} {z : Int} {l : List SR} {f : Nat → Int} {P P' : PS} (h : CaC j L z l f P) (hf : frP i P P') (c : j ≠ i) : CaC j L z l f P' := by
  have g := (hf.1.2 j c).1 10
  rcases h with m | n
  · exact Or.inl (by rw [g]; exact m)
  · refine Or.inr ?_
    rw [g]
    exact n.oth hf c
theorem CsC.up {i p : Nat} {y : SY} {X : BXt} {z : Int} {l : List SR} {f : Nat → Int} {P3 P3' P6 : PS} (h : CsC X y z l f P3 P6) (hI : InjP y P6) (hp : p < y.1) (hg : gR P6 0 0 p = some i) (hc : CaC i (y.2.1 p) z l f P3') (hf : frP i P3 P3') : CsC X y z l f P3' P6 := by
  refine ⟨fun q hq j hj => ⟨?_, (h.1 q hq j hj).2⟩, fun j hj => ⟨(h.2 j hj).1.any hf, ?_⟩⟩
  · by_cases c : j = i
    · subst c
      rw [hI q p hq hp j hj hg]; exact hc
    · exact (h.1 q hq j hj).1.oth hf c
  · by_cases c : j = i
    · subst c
      rw [← (h.1 p hp j hg).2]; exact hc
    · exact (h.2 j hj).2.oth hf c
