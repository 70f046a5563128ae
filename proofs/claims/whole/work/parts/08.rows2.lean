section ZR2
variable {p : Program} {l : Launch} {e : Env} {R : Room} {s : State} {m : MethodId} {args : Array Value} {below : List Frame} {meth : Method} {c : Code} {H : Heap} {locs : List Loc} {cells slots : Nat} {Q : State → Prop}
variable {cc : ByteArray} {pc : Nat} {ls : Array Slot} {rest : List Value} {D : va_G} {aC : Nat → ClassId} {ρ : Nat → Nat → Nat → Nat} {hs : List PS} {A : Nat → Prop} {H0 : Heap}
theorem at_storeR {a n i : Nat} {cA : ClassId} {f g : Nat → Option Nat} {x : Option Nat} {H1 : Heap} (e1 : H1[a]? = some ((vp_cell cA (n, .inr (.inr (.inr (.inr f))))).setSlot i (va_rf x))) (hg : ∀ q, g q = if q = i then x else f q) : va_at D zcl (a, .inl (cA, n, .inr (.inr (.inr (.inr g))))) H1 := by
  show H1[a]? = some (vp_cell _ _)
  rw [e1, vp_cell_q, vp_cell_q, arrV_store]
  congr 2
  funext q
  rw [hg q]
  by_cases hq : q = i
  · subst hq; simp [updV]
  · simp [updV, hq]
theorem tysR {ci a : Nat} (hc : ci < 13) (ha : a < nf ci) (hk : (ly ci a).1 = 8) : ∃ t0 : Nat, (tys aC)[t0]? = some (aC (10 + (ly ci a).2 % 100), FieldType.object (rn ((ly ci a).2 % 100))) := by
  rcases lyR_of hc ha hk with h | h
  · rw [h]; exact ⟨4, rfl⟩
  · rw [h]; exact ⟨5, rfl⟩
theorem z_aast (hexec : p.tables.exec = Jvm.exec) (hb : c.code = cc) {ci a j k : Nat} (hK : KK D aC s) (hR : RelH D aC ρ hs H) (hl : hs.length = 13) (hv : vc hs ci j (a + 1)) (hk : (ly ci a).1 = 8) (hvk : vc hs ((ly ci a).2 % 100) k 0) {i : Int32} (hin : vp_in i ((ly ci a).2 / 100)) (hA : A (ρ ci j (a + 1))) (hS : va_S A H0 H locs) (hdg : decode cc pc = .ok (.aastore, 1))
    (kk : ∀ (H1 : Heap) (locs1 : List Loc), RelH D aC ρ (hs.set ci (sR (hp hs ci) j a i.toNatClampNeg (some k))) H1 → va_S A H0 H1 locs1 → W p l e R s m args below meth c H1 locs1 cells slots Q (F0 m (pc + 1) ls rest)) : W p l e R s m args below meth c H locs cells slots Q (F0 m pc ls (.ref (ρ ((ly ci a).2 % 100) k 0) :: .int i :: .ref (ρ ci j (a + 1)) :: rest)) := by
  have hlt : ci < hs.length := by rw [hl]; exact hv.1.1
  have hat := hR.1 ci j (a + 1) _ hv (ae_8 hk)
  obtain ⟨t0, ht⟩ := tysR (aC := aC) hv.1.1 hv.2.1 hk
  have hlt2 : i.toNatClampNeg < (ly ci a).2 / 100 := Nat.not_le.mp fun q => hin (Or.inr q)
  have h0 : ¬ i < 0 := fun q => hin (Or.inl q)
  have hcl := (clF hvk.1).1
  obtain ⟨r', hr', cellV, g1, g2, g3, -⟩ := hR.1 _ k 0 _ hvk rfl
  have hcls := (hK.1.1 _ _ hcl).2
  obtain ⟨kA, comp, k1, k2, k3, -⟩ := (hK.1.2 t0 _ ht).2
  have hcomp : comp = D.1 ((ly ci a).2 % 100) := Option.some.inj (k3.symm.trans hcls.1)
  subst hcomp
  obtain ⟨kC, hkC, -⟩ := hcls.2
  refine W.aast hexec hb hat (fun q h => by cases h) (fun h => by cases h) k1 k2 rfl hkC ⟨h0, by show _ < (arrV _ _ _).slots.size; rw [arrV_size]; exact hlt2⟩ g1 (fun q h => by rw [g3] at h; cases h) (by rw [g2]; exact hkC) (by rw [g2]; exact va_assign hcls) rfl rfl hdg fun H1 e z oq => ?_
  refine kk H1 _ (hR.upd (cn_set hlt rfl) hv (fun c' j' a' _ hne => ce_arr (P := sR (hp hs ci) j a i.toNatClampNeg (some k)) hlt rfl rfl rfl (fun _ _ _ => rfl) (fun _ _ _ => rfl) (fun j' a' h => u3_ne h) c' j' a' hne) (fun e' he => ?_) oq) (hS.put z oq hA)
  have he : ae aC ρ ci j (hp (hs.set ci (sR (hp hs ci) j a i.toNatClampNeg (some k))) ci) a = some e' := he
  rw [hp_set hlt, if_pos rfl, ae_8 hk] at he
  cases he
  refine at_storeR (x := some (ρ ((ly ci a).2 % 100) k 0)) e (fun q => ?_)
  by_cases hq : q = i.toNatClampNeg
  · subst hq; simp [gR, sR, u3]
  · simp [gR, sR, u3, hq]
theorem z_aastN (hexec : p.tables.exec = Jvm.exec) (hb : c.code = cc) {ci a j : Nat} (hK : KK D aC s) (hR : RelH D aC ρ hs H) (hl : hs.length = 13) (hv : vc hs ci j (a + 1)) (hk : (ly ci a).1 = 8) {i : Int32} (hin : vp_in i ((ly ci a).2 / 100)) (hA : A (ρ ci j (a + 1))) (hS : va_S A H0 H locs) (hdg : decode cc pc = .ok (.aastore, 1))
    (kk : ∀ (H1 : Heap) (locs1 : List Loc), RelH D aC ρ (hs.set ci (sR (hp hs ci) j a i.toNatClampNeg none)) H1 → va_S A H0 H1 locs1 → W p l e R s m args below meth c H1 locs1 cells slots Q (F0 m (pc + 1) ls rest)) : W p l e R s m args below meth c H locs cells slots Q (F0 m pc ls (.null :: .int i :: .ref (ρ ci j (a + 1)) :: rest)) := by
  have hlt : ci < hs.length := by rw [hl]; exact hv.1.1
  have hat := hR.1 ci j (a + 1) _ hv (ae_8 hk)
  obtain ⟨t0, ht⟩ := tysR (aC := aC) hv.1.1 hv.2.1 hk
  refine va_WaastN (C := rn ((ly ci a).2 % 100)) hexec hb hat ((hK.1.2 t0 _ ht).1 _ _) (fun h => by cases h) (by show ¬ (i < 0 ∨ (arrV _ _ _).slots.size ≤ _); rw [arrV_size]; exact hin) rfl rfl hdg fun H1 e z oq => ?_
  refine kk H1 _ (hR.upd (cn_set hlt rfl) hv (fun c' j' a' _ hne => ce_arr (P := sR (hp hs ci) j a i.toNatClampNeg none) hlt rfl rfl rfl (fun _ _ _ => rfl) (fun _ _ _ => rfl) (fun j' a' h => u3_ne h) c' j' a' hne) (fun e' he => ?_) oq) (hS.put z oq hA)
  have he : ae aC ρ ci j (hp (hs.set ci (sR (hp hs ci) j a i.toNatClampNeg none)) ci) a = some e' := he
  rw [hp_set hlt, if_pos rfl, ae_8 hk] at he
  cases he
  refine at_storeR (x := none) e (fun q => ?_)
  by_cases hq : q = i.toNatClampNeg
  · subst hq; simp [gR, sR, u3]
  · simp [gR, sR, u3, hq]
theorem z_copy {own index : Nat} (hexec : p.tables.exec = Jvm.exec) (hb : c.code = cc) (hml : c.maxLocals = ls.size) (hown : s.vm.findClass (rn own) = some m.cls) (hlink : (Cond.methodLink (rn own) index arraycopyName).before args s = true) (hnat : (Cond.native arraycopyName).before args s = true) (hstat : (Cond.static arraycopyName).before args s = true) (hini : (Cond.initialized "java/lang/System").before args s = true)
    {c0 j0 a0 c1 j1 a1 : Nat} (hK : KK D aC s) (hR : RelH D aC ρ hs H) (hlen : hs.length = 13) (hv0 : vc hs c0 j0 (a0 + 1)) (hv1 : vc hs c1 j1 (a1 + 1)) (hk0 : (ly c0 a0).1 = 3) (hk1 : (ly c1 a1).1 = 3) (hA : A (ρ c1 j1 (a1 + 1))) (hS : va_S A H0 H locs)
    {sp dp n : Int32} (h1 : ¬ sp < 0) (h2 : ¬ dp < 0) (h3 : ¬ n < 0) (h4 : sp.toNatClampNeg + n.toNatClampNeg ≤ (ly c0 a0).2) (h5 : dp.toNatClampNeg + n.toNatClampNeg ≤ (ly c1 a1).2)
    (hframes : 1 ≤ R.frames) (hlocals : (rest.map fun v => v.category).sum + (nativeFrameWords "java/lang/System" "arraycopy" 5 + 11) ≤ R.locals) (hdg : decode cc pc = .ok (.invokestatic index, 3))
    (kk : ∀ (H1 : Heap) (locs1 : List Loc), RelH D aC ρ (hs.set c1 (sW (hp hs c1) j1 a1 (va_cpy (gA (hp hs c0) j0 a0) (gA (hp hs c1) j1 a1) sp.toNatClampNeg dp.toNatClampNeg n.toNatClampNeg))) H1 → va_S A H0 H1 locs1 → W p l e R s m args below meth c H1 locs1 cells slots Q (F0 m (pc + 3) ls rest)) :
    W p l e R s m args below meth c H locs cells slots Q (F0 m pc ls (.int n :: .int dp :: .ref (ρ c1 j1 (a1 + 1)) :: .int sp :: .ref (ρ c0 j0 (a0 + 1)) :: rest)) := by
  have hlt : c1 < hs.length := by rw [hlen]; exact hv1.1.1
  have nn : ∀ z : Int32, ¬ z < 0 → z.toInt = (z.toNatClampNeg : Int) := by
    intro z hz
    have hz0 : (0 : Int) ≤ z.toInt := by
      have := Int32.not_lt.mp hz
      simpa using Int32.le_iff_toInt_le.mp this
    show z.toInt = ((z.toInt.toNat : Nat) : Int)
    omega
  intro T hT X
  have hc0 : H[ρ c0 j0 (a0 + 1)]? = some (vp_cell (aC 0) ((ly c0 a0).2, .inl (gA (hp hs c0) j0 a0))) := hR.1 c0 j0 (a0 + 1) _ hv0 (ae_3 hk0)
  have hc1 : H[ρ c1 j1 (a1 + 1)]? = some (vp_cell (aC 0) ((ly c1 a1).2, .inl (gA (hp hs c1) j1 a1))) := hR.1 c1 j1 (a1 + 1) _ hv1 (ae_3 hk1)
  generalize hf : gA (hp hs c0) j0 a0 = f at *
  generalize hg : gA (hp hs c1) j1 a1 = g at *
  obtain ⟨-, k0, hkk0, cm0, hkq0⟩ := (hK.1.2 0 _ rfl).1 (ly c0 a0).2 (fun j => .int (f j))
  obtain ⟨-, k1, hkk1, cm1, hkq1⟩ := (hK.1.2 0 _ rfl).1 (ly c1 a1).2 (fun j => .int (g j))
  obtain ⟨vm', X', step⟩ := X.arraycopy hexec hown hlink hnat hstat hini (src := ρ c0 j0 (a0 + 1)) (dst := ρ c1 j1 (a1 + 1)) (cs := vp_cell (aC 0) ((ly c0 a0).2, .inl f)) (cd := vp_cell (aC 0) ((ly c1 a1).2, .inl g)) (srcPos := sp) (destPos := dp) (n := n) (by rw [hT]; exact hc0) (by rw [hT]; exact hc1)
    (fun _ h => by cases h) (fun _ h => by cases h) (fun h => by cases h) (fun h => by cases h) hkk0 hkk1 hkq0 hkq1 (by simp [refKind]) h1 h2 h3
    (by rw [nn sp h1, nn n h3]; show ¬ _ > ((arrV (aC 0) (ly c0 a0).2 (fun j => .int (f j))).slots.size : Int); rw [arrV_size]; omega)
    (by rw [nn dp h2, nn n h3]; show ¬ _ > ((arrV (aC 0) (ly c1 a1).2 (fun j => .int (g j))).slots.size : Int); rw [arrV_size]; omega)
    (fun vm₁ _ i hi => by
      have e : (vp_cell (aC 0) ((ly c0 a0).2, .inl f)).slots.getD (sp.toNatClampNeg + i) .null = .int (f (sp.toNatClampNeg + i)) := by
        show (arrV (aC 0) (ly c0 a0).2 (fun j => .int (f j))).slots.getD _ _ = _
        rw [Array.getD_eq_getD_getElem?, arrV_read _ _ (by omega)]
        rfl
      refine ⟨?_, ?_⟩
      · rw [e]; rfl
      · rw [e]
        exact trivial)
    (g := F0 m pc ls (.int n :: .int dp :: .ref (ρ c1 j1 (a1 + 1)) :: .int sp :: .ref (ρ c0 j0 (a0 + 1)) :: rest)) rfl (by rw [hml]) (rest := rest) rfl (by rw [hb]; exact hdg) hframes (by show 2 * 0 + _ + _ ≤ _; omega)
  have e1 : copied (vp_cell (aC 0) ((ly c0 a0).2, .inl f)) (vp_cell (aC 0) ((ly c1 a1).2, .inl g)) sp dp n = vp_cell (aC 0) ((ly c1 a1).2, .inl (va_cpy f g sp.toNatClampNeg dp.toNatClampNeg n.toNatClampNeg)) := va_copied (fun z => .int z) (aC 0) (aC 0) f g h4
  rw [e1] at X' step
  have hl : ρ c1 j1 (a1 + 1) < H.size := (Array.getElem?_eq_some_iff.mp hc1).1
  generalize hN : vp_cell (aC 0) ((ly c1 a1).2, .inl (va_cpy f g sp.toNatClampNeg dp.toNatClampNeg n.toNatClampNeg)) = N at X' step
  have hheap : ((T.setVm vm').setCell (ρ c1 j1 (a1 + 1)) N).heap = H.setIfInBounds (ρ c1 j1 (a1 + 1)) N := by rw [← hT]; rfl
  have oq : ∀ q : Nat, q ≠ ρ c1 j1 (a1 + 1) → (H.setIfInBounds (ρ c1 j1 (a1 + 1)) N)[q]? = H[q]? := fun q hq => by simp [Array.getElem?_setIfInBounds, Ne.symm hq]
  have hR' : RelH D aC ρ (hs.set c1 (sW (hp hs c1) j1 a1 (va_cpy f g sp.toNatClampNeg dp.toNatClampNeg n.toNatClampNeg))) (H.setIfInBounds (ρ c1 j1 (a1 + 1)) N) := by
    refine hR.upd (cn_set hlt rfl) hv1 (fun c' j' a' _ hne => ce_arr (P := sW (hp hs c1) j1 a1 _) hlt rfl rfl rfl (fun j' a' h => ?_) (fun _ _ _ => rfl) (fun _ _ _ => rfl) c' j' a' hne) (fun e' he => ?_) oq
    · show (if a' = a1 then (if j' = j1 then _ else gA (hp hs c1) j' a') else gA (hp hs c1) j' a') = gA (hp hs c1) j' a'
      by_cases q1 : a' = a1
      · rw [if_pos q1, if_neg (fun q2 => h ⟨q2, q1⟩)]
      · rw [if_neg q1]
    · have he : ae aC ρ c1 j1 (hp (hs.set c1 (sW (hp hs c1) j1 a1 _)) c1) a1 = some e' := he
      rw [hp_set hlt, if_pos rfl, ae_3 hk1] at he
      cases he
      show (H.setIfInBounds (ρ c1 j1 (a1 + 1)) N)[ρ c1 j1 (a1 + 1)]? = some _
      have eg : gA (sW (hp hs c1) j1 a1 (va_cpy f g sp.toNatClampNeg dp.toNatClampNeg n.toNatClampNeg)) j1 a1 = va_cpy f g sp.toNatClampNeg dp.toNatClampNeg n.toNatClampNeg := by
        funext q
        simp [gA, sW]
      rw [eg]
      simp [Array.getElem?_setIfInBounds, hl, ← hN]
  obtain ⟨t, a1', b1⟩ := kk _ _ hR' ⟨by simp; exact hS.1, fun q g1 g2 => by
      rw [oq q (fun e => g2 (by rw [e]; exact hA))]
      exact hS.2.1 q g1 g2, fun q hq => by
      rcases List.mem_append.mp hq with h | h
      · exact hS.2.2 q h
      · obtain ⟨z, -, hz⟩ := List.mem_map.mp h
        rw [← hz]
        exact hA⟩ _ hheap X'
  exact ⟨t, step t a1', b1⟩
end ZR2
