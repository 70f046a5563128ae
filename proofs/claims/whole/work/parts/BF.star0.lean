/-! ===== an object whose fields are objects ===== -/
def Href (c n : Nat) (hs : List PS) (dn : Nat → Bool) (P : PS) : Prop := ∀ a, a < nf c → dn a = true → ((ly c a).1 = 9 → vc hs ((ly c a).2 / 100) ((ly c a).2 % 100) 0) ∧ ((ly c a).1 = 7 → ∀ k, gO P n a = some k → vc hs (ly c a).2 k 0) ∧ ((ly c a).1 = 8 → ∀ i, gR P n a i = none)
theorem rx_e {ρ ρ' : Nat → Nat → Nat → Nat} {hs hs' : List PS} {c n q0 sz x k : Nat} {α : Nat → Nat} (hext : ext ρ hs ρ' hs' sz) (hv : vc hs x k 0) : rx ρ' c n q0 α x k 0 = rx ρ c n q0 α x k 0 := by
  unfold rx
  split
  · rfl
  · exact hext.2.1 x k 0 (vc_lt hv).2
theorem Con.step {D : va_G} {aC : Nat → ClassId} {ρ ρ' : Nat → Nat → Nat → Nat} {hs hs' : List PS} {c q0 sz : Nat} {α : Nat → Nat} {dn : Nat → Bool} {P : PS} {H H1 : Heap} (h : Con D aC ρ hs c q0 sz α dn P H) (hR : RelH D aC ρ' hs' H1) (hext : ext ρ hs ρ' hs' H.size) (hsz : H.size ≤ H1.size) (hk : ∀ q : Nat, q < H.size → ¬ zA ρ hs H.size q → H1[q]? = H[q]?) (hcn : cn hs' c = cn hs c) (href : Href c (cn hs c) hs dn P) : Con D aC ρ' hs' c q0 sz α dn P H1 := by
  have z5 := h.2.2.2.2.2
  have q0l : q0 < H.size := h.2.1.lt
  have nz : ∀ q, q < H.size → (∀ c' j a, vc hs c' j a → ρ c' j a ≠ q) → ¬ zA ρ hs H.size q := fun q hq hn g => by
    rcases g with ⟨c', j, a, hv, e⟩ | g
    · exact hn c' j a hv e.symm
    · omega
  have fe : ∀ a, a < nf c → dn a = true → fval (rx ρ' c (cn hs c) q0 α) c (cn hs c) P a = fval (rx ρ c (cn hs c) q0 α) c (cn hs c) P a := fun a ha hd => by
    have hr := href a ha hd
    unfold fval
    split
    · rfl
    · rfl
    · rfl
    · rename_i hk'
      cases eo : gO P (cn hs c) a with
      | none => rfl
      | some k =>
        show va_rf (some (rx ρ' c (cn hs c) q0 α (ly c a).2 k 0)) = va_rf (some (rx ρ c (cn hs c) q0 α (ly c a).2 k 0))
        rw [rx_e hext (hr.2.1 hk' k eo)]
    · rename_i hk'
      rw [rx_e hext (hr.1 hk')]
    · rw [rx_n, rx_n]
  have ce' : cfs (rx ρ' c (cn hs c) q0 α) c (cn hs c) P dn = cfs (rx ρ c (cn hs c) q0 α) c (cn hs c) P dn := by
    unfold cfs
    refine List.map_congr_left (fun a ha => ?_)
    cases hd : dn a with
    | false => rfl
    | true => exact fe a (List.mem_range.mp ha) hd
  have new : ∀ c' j a, vc hs' c' j a → (vc hs c' j a ∧ ρ' c' j a = ρ c' j a) ∨ H.size ≤ ρ' c' j a := fun c' j a hv => by
    by_cases g : j < cn hs c'
    · refine Or.inl ⟨?_, hext.2.1 c' j a g⟩
      cases a with
      | zero => exact ⟨hv.1, g⟩
      | succ a => exact ⟨⟨hv.1.1, g⟩, hv.2⟩
    · exact Or.inr (hext.2.2 c' j a hv (by omega))
  refine ⟨hR, ?_, fun a ha hd hr e he => ?_, fun c' j a hv g => ?_, fun a ha hd hr => ?_, z5.1, by omega⟩
  · rw [hcn, ce']
    exact h.2.1.kept (hk q0 q0l (nz q0 q0l h.2.2.2.1))
  · have q := h.2.2.2.2.1 a ha hd hr
    rw [hcn] at he
    refine (h.2.2.1 a ha hd hr e ?_).kept (hk _ q.2.1 (nz _ q.2.1 q.2.2.1))
    rw [← he]
    unfold ae
    split
    · rfl
    · rfl
    · rfl
    · rfl
    · rename_i hk'
      have hn := (href a ha hd).2.2 hk'
      have fe2 : ∀ r : Nat → Nat → Nat → Nat, (fun i => (gR P (cn hs c) a i).map fun k => r ((ly c a).2 % 100) k 0) = fun _ => none := fun r => by
        funext i; rw [hn i]; rfl
      rw [fe2, fe2]
    · rfl
  · rcases new c' j a hv with ⟨hv', e⟩ | g'
    · rw [e] at g; exact h.2.2.2.1 c' j a hv' g
    · omega
  · have q := h.2.2.2.2.1 a ha hd hr
    refine ⟨q.1, by omega, fun c' j b hv g => ?_, q.2.2.2⟩
    rcases new c' j b hv with ⟨hv', e⟩ | g'
    · rw [e] at g; exact q.2.2.1 c' j b hv' g
    · omega
def SI (D : va_G) (aC : Nat → ClassId) (ρ0 : Nat → Nat → Nat → Nat) (hs0 : List PS) (s : State) (q0 : Nat) (P : PS) (hs : List PS) (ρ : Nat → Nat → Nat → Nat) (α : Nat → Nat) (dn : Nat → Bool) (H : Heap) (locs : List Loc) : Prop := Con D aC ρ hs 12 q0 s.heap.size α dn P H ∧ ext ρ0 hs0 ρ hs s.heap.size ∧ va_S (iA ρ0 hs0 s.heap.size q0) s.heap H locs ∧ wf hs ∧ Href 12 0 hs dn P ∧ cn hs 12 = 0
theorem SI.zs {D : va_G} {aC : Nat → ClassId} {ρ0 ρ : Nat → Nat → Nat → Nat} {hs0 hs : List PS} {s : State} {q0 : Nat} {P : PS} {α : Nat → Nat} {dn : Nat → Bool} {H : Heap} {locs : List Loc} (h : SI D aC ρ0 hs0 s q0 P hs ρ α dn H locs) : ∀ q, zA ρ hs H.size q → iA ρ0 hs0 s.heap.size q0 q := fun q hq => Or.inr (zA_sub h.2.1 h.2.2.1.1 hq)
theorem kt_obj {k : Nat} {ty : FieldType} (h : ktb k ty = true) (hk : k = 7 ∨ k = 9) : ∃ y, ty = .object y := by
  rcases hk with rfl | rfl <;> cases ty <;> first | exact ⟨_, rfl⟩ | cases h
section FLD
variable {p : Program} {l : Launch} {e : Env} {R : Room} {s : State} {m : MethodId} {args : Array Value} {below : List Frame} {meth : Method} {cd : Code} {Q : State → Prop} {ls : Array Slot} {D : va_G} {aC : Nat → ClassId} {ρ0 : Nat → Nat → Nat → Nat} {hs0 : List PS} {q0 : Nat} {P : PS} {M12 : MI}
/-- the new object is put into its field -/
theorem f_put {hs hs' : List PS} {ρ ρ' : Nat → Nat → Nat → Nat} {α : Nat → Nat} {dn : Nat → Bool} {H H1 : Heap} {locs locs1 : List Loc} {cells slots pc a cc n idxF : Nat} (hC : Ci p s m args meth cd M12 D aC) (h12 : M12.2.2.2.2.2.2 = 12) (hSI : SI D aC ρ0 hs0 s q0 P hs ρ α dn H locs) (hR : RelH D aC ρ' hs' H1) (hext : ext ρ hs ρ' hs' H.size) (hsz : H.size ≤ H1.size) (hk : ∀ q : Nat, q < H.size → ¬ zA ρ hs H.size q → H1[q]? = H[q]?) (hS : va_S (iA ρ0 hs0 s.heap.size q0) s.heap H1 locs1) (hw : wf hs') (hcn : cn hs' 12 = 0)
    (ha : a < nf 12) (hc : cc < 12) (hn : n < cn hs' cc) (hkd : ((ly 12 a).1 = 9 ∧ (ly 12 a).2 / 100 = cc ∧ (ly 12 a).2 % 100 = n) ∨ ((ly 12 a).1 = 7 ∧ (ly 12 a).2 = cc ∧ gO P 0 a = some n)) (hF : inFT 12 idxF 12 a = true) (hdecl : (tX 12 a).1 = rn 12) (hd : decode M12.2.2.2.1 pc = .ok (.putfield idxF, 3))
    (kk : ∀ (H2 : Heap) (locs2 : List Loc), SI D aC ρ0 hs0 s q0 P hs' ρ' α (updB dn a) H2 locs2 → W p l e R s m args below meth cd H2 locs2 cells slots Q (F0 m (pc + 3) ls [])) : W p l e R s m args below meth cd H1 locs1 cells slots Q (F0 m pc ls [.ref (ρ' cc n 0), .ref q0]) := by
  obtain ⟨hx, hb, hml, hown, hts, hKK, hAO, hret, hlk, hini⟩ := id hC
  rw [h12] at hown
  obtain ⟨t, hFT⟩ := any_FT hF
  have c0 := hSI.2.2.2.2.2
  have hstep := hSI.1.step hR hext hsz hk (by rw [hcn, c0]) (by rw [c0]; exact hSI.2.2.2.2.1)
  have kt := kt_of (c := 12) (by omega) ha
  obtain ⟨y, ty⟩ := kt_obj kt (by rcases hkd with g | g; exact Or.inr g.1; exact Or.inl g.1)
  have hv : Value.ref (ρ' cc n 0) = fval (rx ρ' 12 (cn hs' 12) q0 α) 12 (cn hs' 12) P a := by
    rcases hkd with ⟨g1, g2, g3⟩ | ⟨g1, g2, g3⟩
    · unfold fval
      rw [g1]
      show _ = Value.ref (rx ρ' 12 (cn hs' 12) q0 α ((ly 12 a).2 / 100) ((ly 12 a).2 % 100) 0)
      rw [g2, g3, rx_o (by omega)]
    · unfold fval
      rw [g1, hcn]
      show _ = va_rf ((gO P 0 a).map fun k => rx ρ' 12 0 q0 α (ly 12 a).2 k 0)
      rw [g3, g2]
      show _ = Value.ref (rx ρ' 12 0 q0 α cc n 0)
      rw [rx_o (by omega)]
  refine c_put (ci := 12) (a := a) hx hb hown hts hKK (by omega) hstep.2.1 hFT hini hdecl (by rw [cfs_len]; exact ha) (Or.inl rfl) hS (by rw [ty]; rfl) (by rw [ty]; rfl) hd (fun H2 locs2 g1 g2 g3 g4 => ?_)
  have ni : isAr (ly 12 a).1 = false := by
    rcases hkd with g | g <;> rw [g.1] <;> rfl
  refine kk H2 locs2 ⟨hstep.set hv ni g1 g2 g3, ext_trans hSI.2.1 hext hSI.2.2.1.1, g4, hw, fun b hb' hd' => ?_, hcn⟩
  by_cases eb : b = a
  · subst eb
    refine ⟨fun k9 => ?_, fun k7 k hk => ?_, fun k8 => ?_⟩
    · rcases hkd with ⟨g1, g2, g3⟩ | ⟨g1, _⟩
      · rw [g2, g3]; exact ⟨by omega, hn⟩
      · rw [k9] at g1; cases g1
    · rcases hkd with ⟨g1, _⟩ | ⟨g1, g2, g3⟩
      · rw [k7] at g1; cases g1
      · rw [g3] at hk; cases hk; rw [g2]; exact ⟨by omega, hn⟩
    · rcases hkd with g | g <;> (have := g.1; rw [k8] at this; cases this)
  · have hd0 : dn b = true := by
      unfold updB at hd'
      cases hn' : Nat.beq b a with
      | true => exact absurd (Nat.eq_of_beq_eq_true hn') eb
      | false => rw [hn'] at hd'; exact hd'
    have o := hSI.2.2.2.2.1 b hb' hd0
    exact ⟨fun k9 => vc_le hext.1 (o.1 k9), fun k7 k hk => vc_le hext.1 (o.2.1 k7 k hk), o.2.2⟩
end FLD
