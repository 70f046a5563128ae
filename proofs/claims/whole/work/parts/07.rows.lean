/-! ===== the kit's rows for cells, over the pools ===== -/
theorem va_P1 {D : va_G} {cl : List vw_C} {q : Nat × va_E} {H : Heap} (h : va_at D cl q H) : va_P D cl [q] H := by
  intro k r hk
  match k, hk with
  | 0, hk => cases hk; exact h
  | k + 1, hk => simp at hk
theorem ly7_no {aC : Nat → ClassId} {ρ : Nat → Nat → Nat → Nat} {c j a : Nat} {P P' : PS} (hA : gA P' j a = gA P j a) (hB : gB P' j a = gB P j a) (hR : gR P' j a = gR P j a) : ae aC ρ c j P' a = ae aC ρ c j P a := by
  unfold ae
  rw [hA, hB, hR]
theorem fv_same {ρ : Nat → Nat → Nat → Nat} {c j : Nat} {P P' : PS} (hI : gI P' j = gI P j) (hL : gL P' j = gL P j) (hO : gO P' j = gO P j) : fv ρ c j P' = fv ρ c j P := by
  unfold fv fval
  rw [hI, hL, hO]
theorem u2_ne {α : Type} {f : Nat → Nat → α} {j a j' : Nat} {v : α} (h : j' ≠ j) : u2 f j a v j' = f j' := by
  funext b
  simp only [u2, if_neg h, ite_self]
theorem u3_ne {α : Type} {f : Nat → Nat → Nat → α} {j a i j' a' : Nat} {v : α} (h : ¬ (j' = j ∧ a' = a)) : u3 f j a i v j' a' = f j' a' := by
  funext b
  unfold u3
  by_cases h1 : a' = a
  · rw [if_pos h1, if_neg (fun h2 => h ⟨h2, h1⟩)]
  · rw [if_neg h1]
theorem ce_obj {aC : Nat → ClassId} {ρ : Nat → Nat → Nat → Nat} {hs : List PS} {c : Nat} {P : PS} (hl : c < hs.length) {j : Nat} (hI : ∀ j', j' ≠ j → gI P j' = gI (hp hs c) j') (hL : ∀ j', j' ≠ j → gL P j' = gL (hp hs c) j') (hO : ∀ j', j' ≠ j → gO P j' = gO (hp hs c) j') (hA : gA P = gA (hp hs c)) (hB : gB P = gB (hp hs c)) (hR : gR P = gR (hp hs c))
    (c' j' a' : Nat) (hn : ¬ (c' = c ∧ j' = j ∧ a' = 0)) : ce aC ρ (hs.set c P) c' j' a' = ce aC ρ hs c' j' a' := by
  cases a' with
  | zero =>
    simp only [ce, hp_set hl]
    by_cases e : c' = c
    · subst e
      rw [if_pos rfl]
      have hj : j' ≠ j := fun q => hn ⟨rfl, q, rfl⟩
      rw [fv_same (hI j' hj) (hL j' hj) (hO j' hj)]
    · rw [if_neg e]
  | succ a =>
    simp only [ce, hp_set hl]
    by_cases e : c' = c
    · subst e
      rw [if_pos rfl]
      exact ly7_no (by rw [hA]) (by rw [hB]) (by rw [hR])
    · rw [if_neg e]
theorem ce_arr {aC : Nat → ClassId} {ρ : Nat → Nat → Nat → Nat} {hs : List PS} {c : Nat} {P : PS} (hl : c < hs.length) {j a : Nat} (hI : gI P = gI (hp hs c)) (hL : gL P = gL (hp hs c)) (hO : gO P = gO (hp hs c)) (hA : ∀ j' a', ¬ (j' = j ∧ a' = a) → gA P j' a' = gA (hp hs c) j' a') (hB : ∀ j' a', ¬ (j' = j ∧ a' = a) → gB P j' a' = gB (hp hs c) j' a') (hR : ∀ j' a', ¬ (j' = j ∧ a' = a) → gR P j' a' = gR (hp hs c) j' a')
    (c' j' a' : Nat) (hn : ¬ (c' = c ∧ j' = j ∧ a' = a + 1)) : ce aC ρ (hs.set c P) c' j' a' = ce aC ρ hs c' j' a' := by
  cases a' with
  | zero =>
    simp only [ce, hp_set hl]
    by_cases e : c' = c
    · subst e
      rw [if_pos rfl]
      rw [fv_same (P := hp hs c') (P' := P) (by rw [hI]) (by rw [hL]) (by rw [hO])]
    · rw [if_neg e]
  | succ b =>
    simp only [ce, hp_set hl]
    by_cases e : c' = c
    · subst e
      rw [if_pos rfl]
      have hq : ¬ (j' = j ∧ b = a) := fun q => hn ⟨rfl, q.1, by rw [q.2]⟩
      exact ly7_no (hA j' b hq) (hB j' b hq) (hR j' b hq)
    · rw [if_neg e]
theorem FT_in {own idx c a t : Nat} (h : (own, idx, c, a, t) ∈ FT) : Cond.fieldLink (rn own) idx (tX c a).1 (tX c a).2.1 (tX c a).2.2.1 ∈ GW ∧ c < 13 ∧ a < nf c := by
  have hck := List.all_eq_true.mp FT_ck _ h
  simp only [ckF, Bool.and_eq_true] at hck
  exact ⟨wGW_ok hck.1.1, Nat.le_of_ble_eq_true hck.1.2, Nat.le_of_ble_eq_true hck.2⟩
section ZR
variable {p : Program} {l : Launch} {e : Env} {R : Room} {s : State} {m : MethodId} {args : Array Value} {below : List Frame} {meth : Method} {c : Code} {H : Heap} {locs : List Loc} {cells slots : Nat} {Q : State → Prop}
variable {cc : ByteArray} {pc : Nat} {ls : Array Slot} {rest : List Value} {D : va_G} {aC : Nat → ClassId} {ρ : Nat → Nat → Nat → Nat} {hs : List PS} {A : Nat → Prop} {H0 : Heap}
theorem z_get (hexec : p.tables.exec = Jvm.exec) (hb : c.code = cc) {own idx ci a j t : Nat} (hown : s.vm.findClass (rn own) = some m.cls) (hts : ∀ w ∈ GW, w.before args s = true) (hK : KK D aC s) (hR : RelH D aC ρ hs H) (hv : vc hs ci j 0) (hF : (own, idx, ci, a, t) ∈ FT) (hdg : decode cc pc = .ok (.getfield idx, 3))
    (kk : W p l e R s m args below meth c H locs cells slots Q (F0 m (pc + 3) ls (fval ρ ci j (hp hs ci) a :: rest))) : W p l e R s m args below meth c H locs cells slots Q (F0 m pc ls (.ref (ρ ci j 0) :: rest)) := by
  obtain ⟨hw, -, ha⟩ := FT_in hF
  obtain ⟨hcl, hin, -, -⟩ := clF hv.1
  exact va_get hexec hb hts hin hown hK.1 (va_P1 (hR.1 ci j 0 _ hv rfl)) 0 rfl hcl a ha (hts _ hw) (fun _ h => h) (fv_get ha) hdg kk
theorem z_put (hexec : p.tables.exec = Jvm.exec) (hb : c.code = cc) {own idx ci a j t : Nat} (hown : s.vm.findClass (rn own) = some m.cls) (hts : ∀ w ∈ GW, w.before args s = true) (hK : KK D aC s) (hR : RelH D aC ρ hs H) (hl : hs.length = 13) (hv : vc hs ci j 0) (hF : (own, idx, ci, a, t) ∈ FT) (hfin : (tX ci a).2.2.2 = false) (hA : A (ρ ci j 0)) (hS : va_S A H0 H locs)
    {v : Value} {P : PS} (hn : narrow (tyz ci a) v = v) (hfit : fits (tyz ci a) v = true) (hg : gN P = cn hs ci) (hfv : ∀ b, b < nf ci → fval ρ ci j P b = if b = a then v else fval ρ ci j (hp hs ci) b)
    (hI : ∀ j', j' ≠ j → gI P j' = gI (hp hs ci) j') (hL : ∀ j', j' ≠ j → gL P j' = gL (hp hs ci) j') (hO : ∀ j', j' ≠ j → gO P j' = gO (hp hs ci) j') (hAr : gA P = gA (hp hs ci)) (hB : gB P = gB (hp hs ci)) (hRr : gR P = gR (hp hs ci)) (hdg : decode cc pc = .ok (.putfield idx, 3))
    (kk : ∀ (H1 : Heap) (locs1 : List Loc), RelH D aC ρ (hs.set ci P) H1 → va_S A H0 H1 locs1 → W p l e R s m args below meth c H1 locs1 cells slots Q (F0 m (pc + 3) ls rest)) : W p l e R s m args below meth c H locs cells slots Q (F0 m pc ls (v :: .ref (ρ ci j 0) :: rest)) := by
  obtain ⟨hw, -, hk⟩ := FT_in hF
  obtain ⟨hcl, hin, hty, hnm⟩ := clF hv.1
  have hlt : ci < hs.length := by rw [hl]; exact hv.1
  have hap := va_apart (own := rn own) hts hin (tyz ci) hty hnm hK.1 hcl
  obtain ⟨r, h1, cell, q1, q2, q3, q4⟩ := hR.1 ci j 0 _ hv rfl
  have hr : r = (rn ci, tX ci, nf ci) := Option.some.inj (h1.symm.trans hcl)
  subst hr
  obtain ⟨hSl, hfc, kC, hkC, hkind⟩ := hK.1.1 ci _ hcl
  obtain ⟨cf, kf, fi, f, hi, hsl⟩ := hSl a hk
  have hlay := hts _ (hin _ (u_in_lay hk))
  unfold u_lay at hlay
  rw [if_neg (by rw [hfin]; decide)] at hlay
  have hst := (u_facts hfc hkC (u_lays hts hin hk) hi).1
  have h6 := u_store hfc hkC hkind hlay hi (hty a hk) hn hfit
  refine W.putK hexec hb (f := f) ⟨hown, hts _ hw, ⟨_, _, _, hi⟩, hst⟩ (by rw [q2]; exact h6) q1 q3 (by rw [hsl]; exact k2_hasslot (q4 a hk)) rfl rfl hdg fun H' e1 e2 e3 => ?_
  rw [hsl] at e1 ⊢
  refine kk H' _ (hR.upd (cn_set hlt hg) hv (fun c' j' a' _ hne => ce_obj hlt hI hL hO hAr hB hRr c' j' a' hne) (fun e he => ?_) e3) (hS.put e2 e3 hA)
  have he : some (Sum.inr (ci, fv ρ ci j (hp (hs.set ci P) ci))) = some e := he
  rw [hp_set hlt, if_pos rfl] at he
  cases he
  rw [fv_set hfv]
  exact ⟨_, hcl, t_OB.to (V := updV (vp_V (fv ρ ci j (hp hs ci))) a v) ⟨_, e1, q2, q3, t_set q4 hap hk v⟩ (fun j _ => vp_updV_set (by rw [fv_len]; exact hk) v j)⟩
theorem ae_3 {ci j a : Nat} {P : PS} (h : (ly ci a).1 = 3) : ae aC ρ ci j P a = some (.inl (aC 0, (ly ci a).2, .inl (gA P j a))) := by unfold ae; rw [h]; rfl
theorem ae_4 {ci j a : Nat} {P : PS} (h : (ly ci a).1 = 4) : ae aC ρ ci j P a = some (.inl (aC 1, (ly ci a).2, .inr (.inl (gB P j a)))) := by unfold ae; rw [h]; rfl
theorem ae_5 {ci j a : Nat} {P : PS} (h : (ly ci a).1 = 5) : ae aC ρ ci j P a = some (.inl (aC 2, (ly ci a).2, .inl (gA P j a))) := by unfold ae; rw [h]; rfl
theorem ae_6 {ci j a : Nat} {P : PS} (h : (ly ci a).1 = 6) : ae aC ρ ci j P a = some (.inl (aC 3, (ly ci a).2, .inl (gA P j a))) := by unfold ae; rw [h]; rfl
theorem ae_8 {ci j a : Nat} {P : PS} (h : (ly ci a).1 = 8) : ae aC ρ ci j P a = some (.inl (aC (10 + (ly ci a).2 % 100), (ly ci a).2 / 100, .inr (.inr (.inr (.inr fun i => (gR P j a i).map fun k => ρ ((ly ci a).2 % 100) k 0))))) := by unfold ae; rw [h]; rfl
theorem z_iald (hexec : p.tables.exec = Jvm.exec) (hb : c.code = cc) {ci a j : Nat} (hK : KK D aC s) (hR : RelH D aC ρ hs H) (hv : vc hs ci j (a + 1)) (hk : (ly ci a).1 = 3) {i : Int32} (hin : vp_in i (ly ci a).2) (hdg : decode cc pc = .ok (.iaload, 1))
    (kk : W p l e R s m args below meth c H locs cells slots Q (F0 m (pc + 1) ls (.int (gA (hp hs ci) j a i.toNatClampNeg) :: rest))) : W p l e R s m args below meth c H locs cells slots Q (F0 m pc ls (.int i :: .ref (ρ ci j (a + 1)) :: rest)) :=
  va_iald hexec hb hK.1 (va_P1 (hR.1 ci j (a + 1) _ hv (ae_3 hk))) 0 0 rfl rfl hin hdg kk
theorem z_lald (hexec : p.tables.exec = Jvm.exec) (hb : c.code = cc) {ci a j : Nat} (hK : KK D aC s) (hR : RelH D aC ρ hs H) (hv : vc hs ci j (a + 1)) (hk : (ly ci a).1 = 4) {i : Int32} (hin : vp_in i (ly ci a).2) (hdg : decode cc pc = .ok (.laload, 1))
    (kk : W p l e R s m args below meth c H locs cells slots Q (F0 m (pc + 1) ls (.long (gB (hp hs ci) j a i.toNatClampNeg) :: rest))) : W p l e R s m args below meth c H locs cells slots Q (F0 m pc ls (.int i :: .ref (ρ ci j (a + 1)) :: rest)) :=
  va_lald hexec hb hK.1 (va_P1 (hR.1 ci j (a + 1) _ hv (ae_4 hk))) 0 1 rfl rfl hin hdg kk
theorem z_bald (hexec : p.tables.exec = Jvm.exec) (hb : c.code = cc) {ci a j : Nat} (hK : KK D aC s) (hR : RelH D aC ρ hs H) (hv : vc hs ci j (a + 1)) (hk : (ly ci a).1 = 5 ∨ (ly ci a).1 = 6) {i : Int32} (hin : vp_in i (ly ci a).2) (hdg : decode cc pc = .ok (.baload, 1))
    (kk : W p l e R s m args below meth c H locs cells slots Q (F0 m (pc + 1) ls (.int (gA (hp hs ci) j a i.toNatClampNeg) :: rest))) : W p l e R s m args below meth c H locs cells slots Q (F0 m pc ls (.int i :: .ref (ρ ci j (a + 1)) :: rest)) := by
  rcases hk with hk | hk
  · exact va_bald hexec hb hK.1 (va_P1 (hR.1 ci j (a + 1) _ hv (ae_5 hk))) 0 2 rfl rfl hin hdg kk
  · exact va_zald hexec hb hK.1 (va_P1 (hR.1 ci j (a + 1) _ hv (ae_6 hk))) 0 3 rfl rfl hin hdg kk
def lyR (c a : Nat) : Bool := !(Nat.beq (ly c a).1 8) || Nat.beq ((ly c a).2 % 100) 3 || Nat.beq ((ly c a).2 % 100) 6
theorem lyR_ck : ((List.range 13).all fun c => (List.range (nf c)).all fun a => lyR c a) = true := by decide +kernel
theorem lyR_of {c a : Nat} (hc : c < 13) (ha : a < nf c) (h : (ly c a).1 = 8) : (ly c a).2 % 100 = 3 ∨ (ly c a).2 % 100 = 6 := by
  have := List.all_eq_true.mp (List.all_eq_true.mp lyR_ck c (List.mem_range.mpr hc)) a (List.mem_range.mpr ha)
  simp only [lyR, h, Bool.or_eq_true] at this
  rcases this with (h1 | h1) | h1
  · simp at h1
  · exact Or.inl (Nat.eq_of_beq_eq_true h1)
  · exact Or.inr (Nat.eq_of_beq_eq_true h1)
theorem z_aald (hexec : p.tables.exec = Jvm.exec) (hb : c.code = cc) {ci a j : Nat} (hK : KK D aC s) (hR : RelH D aC ρ hs H) (hv : vc hs ci j (a + 1)) (hk : (ly ci a).1 = 8) {i : Int32} (hin : vp_in i ((ly ci a).2 / 100)) (hdg : decode cc pc = .ok (.aaload, 1))
    (kk : W p l e R s m args below meth c H locs cells slots Q (F0 m (pc + 1) ls (va_rf ((gR (hp hs ci) j a i.toNatClampNeg).map fun k => ρ ((ly ci a).2 % 100) k 0) :: rest))) : W p l e R s m args below meth c H locs cells slots Q (F0 m pc ls (.int i :: .ref (ρ ci j (a + 1)) :: rest)) := by
  have hat := hR.1 ci j (a + 1) _ hv (ae_8 hk)
  rcases lyR_of hv.1.1 hv.2.1 hk with h | h
  · rw [h] at hat kk
    exact va_aldq hexec hb hK.1 (va_P1 hat) 0 4 rfl rfl hin hdg kk
  · rw [h] at hat kk
    exact va_aldq hexec hb hK.1 (va_P1 hat) 0 5 rfl rfl hin hdg kk
theorem z_alen (hexec : p.tables.exec = Jvm.exec) (hb : c.code = cc) {ci a j : Nat} (hK : KK D aC s) (hR : RelH D aC ρ hs H) (hv : vc hs ci j (a + 1)) (hk : (ly ci a).1 = 3 ∨ (ly ci a).1 = 4 ∨ (ly ci a).1 = 5 ∨ (ly ci a).1 = 6) (hdg : decode cc pc = .ok (.arraylength, 1))
    (kk : W p l e R s m args below meth c H locs cells slots Q (F0 m (pc + 1) ls (.int (nI (ly ci a).2) :: rest))) : W p l e R s m args below meth c H locs cells slots Q (F0 m pc ls (.ref (ρ ci j (a + 1)) :: rest)) := by
  rcases hk with hk | hk | hk | hk
  · exact va_alen hexec hb hK.1 (va_P1 (hR.1 ci j (a + 1) _ hv (ae_3 hk))) 0 0 rfl rfl rfl hdg kk
  · exact va_alen hexec hb hK.1 (va_P1 (hR.1 ci j (a + 1) _ hv (ae_4 hk))) 0 1 rfl rfl rfl hdg kk
  · exact va_alen hexec hb hK.1 (va_P1 (hR.1 ci j (a + 1) _ hv (ae_5 hk))) 0 2 rfl rfl rfl hdg kk
  · exact va_alen hexec hb hK.1 (va_P1 (hR.1 ci j (a + 1) _ hv (ae_6 hk))) 0 3 rfl rfl rfl hdg kk
theorem at_storeI {a n i : Nat} {cA : ClassId} {f g : Nat → Int32} {x : Int32} {H1 : Heap} (e1 : H1[a]? = some ((vp_cell cA (n, .inl f)).setSlot i (.int x))) (hg : g = upd f i x) : va_at D zcl (a, .inl (cA, n, .inl g)) H1 := by
  show H1[a]? = some (vp_cell _ _)
  subst hg
  rw [e1, vp_cell_i, vp_cell_i, arrV_store]
  congr 2
  funext q
  by_cases hq : q = i
  · subst hq; simp [updV, upd]
  · simp [updV, upd, hq]
theorem u3_upd {f : Nat → Nat → Nat → Int32} {j a i : Nat} {x : Int32} : u3 f j a i x j a = upd (f j a) i x := by
  funext q
  simp only [u3, upd, if_pos]
theorem z_iast (hexec : p.tables.exec = Jvm.exec) (hb : c.code = cc) {ci a j : Nat} (hK : KK D aC s) (hR : RelH D aC ρ hs H) (hl : hs.length = 13) (hv : vc hs ci j (a + 1)) (hk : (ly ci a).1 = 3) {i x : Int32} (hin : vp_in i (ly ci a).2) (hA : A (ρ ci j (a + 1))) (hS : va_S A H0 H locs) (hdg : decode cc pc = .ok (.iastore, 1))
    (kk : ∀ (H1 : Heap) (locs1 : List Loc), RelH D aC ρ (hs.set ci (sA (hp hs ci) j a i.toNatClampNeg x)) H1 → va_S A H0 H1 locs1 → W p l e R s m args below meth c H1 locs1 cells slots Q (F0 m (pc + 1) ls rest)) : W p l e R s m args below meth c H locs cells slots Q (F0 m pc ls (.int x :: .int i :: .ref (ρ ci j (a + 1)) :: rest)) := by
  have hlt : ci < hs.length := by rw [hl]; exact hv.1.1
  have hat := hR.1 ci j (a + 1) _ hv (ae_3 hk)
  refine W.iast hexec hb hat ((hK.1.2 0 _ rfl).1 (ly ci a).2 (fun q => .int (gA (hp hs ci) j a q))) (fun q => by cases q) (by show ¬ (i < 0 ∨ (arrV _ _ _).slots.size ≤ _); rw [arrV_size]; exact hin) rfl rfl hdg fun H1 e z oq => ?_
  refine kk H1 _ (hR.upd (cn_set hlt rfl) hv (fun c' j' a' _ hne => ce_arr (P := sA (hp hs ci) j a i.toNatClampNeg x) hlt rfl rfl rfl (fun j' a' h => u3_ne h) (fun _ _ _ => rfl) (fun _ _ _ => rfl) c' j' a' hne) (fun e' he => ?_) oq) (hS.put z oq hA)
  have he : ae aC ρ ci j (hp (hs.set ci (sA (hp hs ci) j a i.toNatClampNeg x)) ci) a = some e' := he
  rw [hp_set hlt, if_pos rfl, ae_3 hk] at he
  cases he
  exact at_storeI e u3_upd
theorem z_bast (hexec : p.tables.exec = Jvm.exec) (hb : c.code = cc) {ci a j : Nat} (hK : KK D aC s) (hR : RelH D aC ρ hs H) (hl : hs.length = 13) (hv : vc hs ci j (a + 1)) (hk : (ly ci a).1 = 5) {i x : Int32} (hin : vp_in i (ly ci a).2) (hA : A (ρ ci j (a + 1))) (hS : va_S A H0 H locs) (hdg : decode cc pc = .ok (.bastore, 1))
    (kk : ∀ (H1 : Heap) (locs1 : List Loc), RelH D aC ρ (hs.set ci (sA (hp hs ci) j a i.toNatClampNeg x.toInt8.toInt32)) H1 → va_S A H0 H1 locs1 → W p l e R s m args below meth c H1 locs1 cells slots Q (F0 m (pc + 1) ls rest)) : W p l e R s m args below meth c H locs cells slots Q (F0 m pc ls (.int x :: .int i :: .ref (ρ ci j (a + 1)) :: rest)) := by
  have hlt : ci < hs.length := by rw [hl]; exact hv.1.1
  have hat := hR.1 ci j (a + 1) _ hv (ae_5 hk)
  refine W.bast hexec hb hat ((hK.1.2 2 _ rfl).1 (ly ci a).2 (fun q => .int (gA (hp hs ci) j a q))) (fun q => by cases q) (by show ¬ (i < 0 ∨ (arrV _ _ _).slots.size ≤ _); rw [arrV_size]; exact hin) rfl rfl hdg fun H1 e z oq => ?_
  refine kk H1 _ (hR.upd (cn_set hlt rfl) hv (fun c' j' a' _ hne => ce_arr (P := sA (hp hs ci) j a i.toNatClampNeg x.toInt8.toInt32) hlt rfl rfl rfl (fun j' a' h => u3_ne h) (fun _ _ _ => rfl) (fun _ _ _ => rfl) c' j' a' hne) (fun e' he => ?_) oq) (hS.put z oq hA)
  have he : ae aC ρ ci j (hp (hs.set ci (sA (hp hs ci) j a i.toNatClampNeg x.toInt8.toInt32)) ci) a = some e' := he
  rw [hp_set hlt, if_pos rfl, ae_5 hk] at he
  cases he
  exact at_storeI e u3_upd
theorem nar_b {x : Int32} (h : x = 0 ∨ x = 1) : narrow .boolean (.int x) = .int x := by
  rcases h with rfl | rfl <;> rfl
theorem z_zast (hexec : p.tables.exec = Jvm.exec) (hb : c.code = cc) {ci a j : Nat} (hK : KK D aC s) (hR : RelH D aC ρ hs H) (hl : hs.length = 13) (hv : vc hs ci j (a + 1)) (hk : (ly ci a).1 = 6) {i x : Int32} (hin : vp_in i (ly ci a).2) (hx : x = 0 ∨ x = 1) (hA : A (ρ ci j (a + 1))) (hS : va_S A H0 H locs) (hdg : decode cc pc = .ok (.bastore, 1))
    (kk : ∀ (H1 : Heap) (locs1 : List Loc), RelH D aC ρ (hs.set ci (sA (hp hs ci) j a i.toNatClampNeg x)) H1 → va_S A H0 H1 locs1 → W p l e R s m args below meth c H1 locs1 cells slots Q (F0 m (pc + 1) ls rest)) : W p l e R s m args below meth c H locs cells slots Q (F0 m pc ls (.int x :: .int i :: .ref (ρ ci j (a + 1)) :: rest)) := by
  have hlt : ci < hs.length := by rw [hl]; exact hv.1.1
  have hat := hR.1 ci j (a + 1) _ hv (ae_6 hk)
  refine W.zast hexec hb hat ((hK.1.2 3 _ rfl).1 (ly ci a).2 (fun q => .int (gA (hp hs ci) j a q))) (fun q => by cases q) (by show ¬ (i < 0 ∨ (arrV _ _ _).slots.size ≤ _); rw [arrV_size]; exact hin) rfl rfl hdg fun H1 e z oq => ?_
  refine kk H1 _ (hR.upd (cn_set hlt rfl) hv (fun c' j' a' _ hne => ce_arr (P := sA (hp hs ci) j a i.toNatClampNeg x) hlt rfl rfl rfl (fun j' a' h => u3_ne h) (fun _ _ _ => rfl) (fun _ _ _ => rfl) c' j' a' hne) (fun e' he => ?_) oq) (hS.put z oq hA)
  have he : ae aC ρ ci j (hp (hs.set ci (sA (hp hs ci) j a i.toNatClampNeg x)) ci) a = some e' := he
  rw [hp_set hlt, if_pos rfl, ae_6 hk] at he
  cases he
  rw [nar_b hx] at e
  exact at_storeI e u3_upd
theorem at_storeL {a n i : Nat} {cA : ClassId} {f g : Nat → Int64} {x : Int64} {H1 : Heap} (e1 : H1[a]? = some ((vp_cell cA (n, .inr (.inl f))).setSlot i (.long x))) (hg : ∀ q, g q = if q = i then x else f q) : va_at D zcl (a, .inl (cA, n, .inr (.inl g))) H1 := by
  show H1[a]? = some (vp_cell _ _)
  rw [e1]
  show some ((arrV cA n fun q => .long (f q)).setSlot i (.long x)) = some (arrV cA n fun q => .long (g q))
  rw [arrV_store]
  congr 2
  funext q
  rw [hg q]
  by_cases hq : q = i
  · subst hq; simp [updV]
  · simp [updV, hq]
theorem z_last (hexec : p.tables.exec = Jvm.exec) (hb : c.code = cc) {ci a j : Nat} (hK : KK D aC s) (hR : RelH D aC ρ hs H) (hl : hs.length = 13) (hv : vc hs ci j (a + 1)) (hk : (ly ci a).1 = 4) {i : Int32} {x : Int64} (hin : vp_in i (ly ci a).2) (hA : A (ρ ci j (a + 1))) (hS : va_S A H0 H locs) (hdg : decode cc pc = .ok (.lastore, 1))
    (kk : ∀ (H1 : Heap) (locs1 : List Loc), RelH D aC ρ (hs.set ci (sB (hp hs ci) j a i.toNatClampNeg x)) H1 → va_S A H0 H1 locs1 → W p l e R s m args below meth c H1 locs1 cells slots Q (F0 m (pc + 1) ls rest)) : W p l e R s m args below meth c H locs cells slots Q (F0 m pc ls (.long x :: .int i :: .ref (ρ ci j (a + 1)) :: rest)) := by
  have hlt : ci < hs.length := by rw [hl]; exact hv.1.1
  have hat := hR.1 ci j (a + 1) _ hv (ae_4 hk)
  refine W.last hexec hb hat ((hK.1.2 1 _ rfl).1 (ly ci a).2 (fun q => .long (gB (hp hs ci) j a q))) (fun q => by cases q) (by show ¬ (i < 0 ∨ (arrV _ _ _).slots.size ≤ _); rw [arrV_size]; exact hin) rfl rfl hdg fun H1 e z oq => ?_
  refine kk H1 _ (hR.upd (cn_set hlt rfl) hv (fun c' j' a' _ hne => ce_arr (P := sB (hp hs ci) j a i.toNatClampNeg x) hlt rfl rfl rfl (fun _ _ _ => rfl) (fun j' a' h => u3_ne h) (fun _ _ _ => rfl) c' j' a' hne) (fun e' he => ?_) oq) (hS.put z oq hA)
  have he : ae aC ρ ci j (hp (hs.set ci (sB (hp hs ci) j a i.toNatClampNeg x)) ci) a = some e' := he
  rw [hp_set hlt, if_pos rfl, ae_4 hk] at he
  cases he
  exact at_storeL e (fun q => by simp [gB, sB, u3])
end ZR
