/-! ===== the machine makes an object ===== -/
theorem ac_int : Cond.arrayClass .int ∈ GW := wGW_ok (i := 306) (by decide +kernel)
theorem ac_long : Cond.arrayClass .long ∈ GW := wGW_ok (i := 255) (by decide +kernel)
theorem ac_byte : Cond.arrayClass .byte ∈ GW := wGW_ok (i := 254) (by decide +kernel)
theorem ac_bool : Cond.arrayClass .boolean ∈ GW := wGW_ok (i := 1701) (by decide +kernel)
section WO
variable {p : Program} {l : Launch} {e : Env} {R : Room} {s : State} {m : MethodId} {args : Array Value} {below : List Frame} {meth : Method} {c : Code} {H : Heap} {locs : List Loc} {cells slots : Nat} {Q : State → Prop} {cc : ByteArray} {ls : Array Slot} {D : va_G} {aC : Nat → ClassId} {ρ : Nat → Nat → Nat → Nat} {pc own : Nat} {hs : List PS} {A : Nat → Prop} {H0 : Heap} {rest : List Value}
theorem c_put (hx : p.tables.exec = Jvm.exec) (hb : c.code = cc) {idx ci a t q0 : Nat} (hown : s.vm.findClass (rn own) = some m.cls) (hts : ∀ w ∈ GW, w.before args s = true) (hK : KK D aC s) (h13 : ci < 13) {fs : List Value} (hat : va_at D zcl (q0, .inr (ci, fs)) H) (hF : (own, idx, ci, a, t) ∈ FT) (hini : meth.name = "<init>") (hdecl : (tX ci a).1 = rn own) (hlen : a < fs.length) (hA : A q0) (hS : va_S A H0 H locs) {v : Value} (hn : narrow (tyz ci a) v = v) (hfit : fits (tyz ci a) v = true) (hdg : decode cc pc = .ok (.putfield idx, 3))
    (kk : ∀ (H1 : Heap) (locs1 : List Loc), va_at D zcl (q0, .inr (ci, fs.set a v)) H1 → H1.size = H.size → (∀ q : Nat, q ≠ q0 → H1[q]? = H[q]?) → va_S A H0 H1 locs1 → W p l e R s m args below meth c H1 locs1 cells slots Q (F0 m (pc + 3) ls rest)) : W p l e R s m args below meth c H locs cells slots Q (F0 m pc ls (v :: .ref q0 :: rest)) := by
  obtain ⟨hw, -, hk⟩ := FT_in hF
  obtain ⟨hcl, hin, hty, hnm⟩ := clF h13
  have hap := va_apart (own := rn own) hts hin (tyz ci) hty hnm hK.1 hcl
  obtain ⟨r, h1, cell, q1, q2, q3, q4⟩ := hat
  have hr : r = (rn ci, tX ci, nf ci) := Option.some.inj (h1.symm.trans hcl)
  subst hr
  obtain ⟨hSl, hfc, kC, hkC, hkind⟩ := hK.1.1 ci _ hcl
  obtain ⟨cf, kf, fi, f, hi, hsl⟩ := hSl a hk
  have hlay := hts _ (hin _ (u_in_lay hk))
  unfold u_lay at hlay
  have hst := (u_facts hfc hkC (u_lays hts hin hk) hi).1
  by_cases hfin : (tX ci a).2.2.2 = true
  · rw [if_pos hfin] at hlay
    have hcf : m.cls = cf := by
      obtain ⟨_, _, c', _, _, _, -, -, hf', -, -, -, hown2, -⟩ := Cond.laysFinal_spec hlay
      have e1 : c' = cf := by have := hi.symm.trans hf'; simp at this; exact this.1.symm
      rw [hdecl] at hown2
      rw [← e1]; exact Option.some.inj (hown.symm.trans hown2)
    have h6 := u_fits hfc hkC hkind (Or.inr hlay) hi (hty a hk) hn hfit
    refine W.putFinK hx hb hown (hts _ hw) hi hst hcf hini (by rw [q2]; exact h6) q1 q3 (by rw [hsl]; exact k2_hasslot (q4 a hk)) rfl rfl hdg fun H' e1 e2 e3 => ?_
    rw [hsl] at e1 ⊢
    exact kk H' _ ⟨_, hcl, t_OB.to (V := updV (vp_V fs) a v) ⟨_, e1, q2, q3, t_set q4 hap hk v⟩ (fun j _ => vp_updV_set hlen v j)⟩ e2 e3 (hS.put e2 e3 hA)
  · rw [if_neg hfin] at hlay
    have h6 := u_store hfc hkC hkind hlay hi (hty a hk) hn hfit
    refine W.putK hx hb (f := f) ⟨hown, hts _ hw, ⟨_, _, _, hi⟩, hst⟩ (by rw [q2]; exact h6) q1 q3 (by rw [hsl]; exact k2_hasslot (q4 a hk)) rfl rfl hdg fun H' e1 e2 e3 => ?_
    rw [hsl] at e1 ⊢
    exact kk H' _ ⟨_, hcl, t_OB.to (V := updV (vp_V fs) a v) ⟨_, e1, q2, q3, t_set q4 hap hk v⟩ (fun j _ => vp_updV_set hlen v j)⟩ e2 e3 (hS.put e2 e3 hA)
theorem c_newa (hx : p.tables.exec = Jvm.exec) (hb : c.code = cc) {atype : ArrayType} {ty : FieldType} {t0 : Nat} {cA0 : ClassId} (hty : newarray.typeOf atype = ty) (harr : (Cond.arrayClass ty).before args s = true) (hK : KK D aC s) (ht : (tys aC)[t0]? = some (cA0, ty)) (hRA : va_RA s cA0 ty → s.vm.findClass ("[" ++ ty.toString) = some cA0) (hS : va_S A H0 H locs)
    {n : Int32} {N : Nat} (hn : ¬ n < 0) (hN : n.toNatClampNeg = N) (hbytes : N * componentBytes ty ≤ 536870912) (hcells : cells + 1 ≤ R.cells) (hslots : slots + N ≤ R.slots) (hdg : decode cc pc = .ok (.newarray atype, 2))
    (kk : ∀ H1 : Heap, H1[H.size]? = some (arrV cA0 N (fun _ => defaultValue ty)) → H1.size = H.size + 1 → (∀ q : Nat, q < H.size → H1[q]? = H[q]?) → va_S A H0 H1 locs → W p l e R s m args below meth c H1 locs (cells + 1) (slots + N) Q (F0 m (pc + 2) ls (.ref H.size :: rest))) : W p l e R s m args below meth c H locs cells slots Q (F0 m pc ls (.int n :: rest)) := by
  subst hty
  refine va_newaK hx hb harr rfl hdg rfl hn hN hbytes hcells hslots rfl fun H1 cA e1 z1 o1 hAr hNm => ?_
  have : cA = cA0 := Option.some.inj (hNm.symm.trans (hRA (hK.1.2 t0 _ ht).2))
  subst this
  exact kk H1 e1 z1 o1 ⟨Nat.le_trans hS.1 (by omega), fun x h1 h2 => (o1 x (Nat.lt_of_lt_of_le h1 hS.1)).trans (hS.2.1 x h1 h2), hS.2.2⟩
theorem c_anew (hx : p.tables.exec = Jvm.exec) (hb : c.code = cc) {ci idx t0 : Nat} {cA0 : ClassId} (hown : s.vm.findClass (rn own) = some m.cls) (hcl : (Cond.classLink (rn own) idx (rn ci)).before args s = true) (hover : va_AO (rn ci) s) (hK : KK D aC s) (ht : (tys aC)[t0]? = some (cA0, .object (rn ci))) (hS : va_S A H0 H locs)
    {n : Int32} {N : Nat} (hn : ¬ n < 0) (hN : n.toNatClampNeg = N) (hbytes : N * 4 ≤ 536870912) (hcells : cells + 1 ≤ R.cells) (hslots : slots + N ≤ R.slots) (hdg : decode cc pc = .ok (.anewarray idx, 3))
    (kk : ∀ H1 : Heap, H1[H.size]? = some (arrV cA0 N (fun _ => .null)) → H1.size = H.size + 1 → (∀ q : Nat, q < H.size → H1[q]? = H[q]?) → va_S A H0 H1 locs → W p l e R s m args below meth c H1 locs (cells + 1) (slots + N) Q (F0 m (pc + 3) ls (.ref H.size :: rest))) : W p l e R s m args below meth c H locs cells slots Q (F0 m pc ls (.int n :: rest)) := by
  subst hN
  refine W.anew hx hb hown hcl (va_AO.use hover) rfl hdg rfl hn hbytes hcells hslots fun cA kA comp f1 f2 f3 f4 => ?_
  obtain ⟨kA', comp', g1, g2, g3, g4⟩ := (hK.1.2 t0 _ ht).2
  have : cA = cA0 := Option.some.inj (f1.symm.trans g4)
  subst this
  have o1 : ∀ q : Nat, q < H.size → (H.push ({ cls := cA, slots := Array.replicate n.toNatClampNeg .null, vm := .none } : Cell))[q]? = H[q]? := fun q hq => by rw [Array.getElem?_push, if_neg (Nat.ne_of_lt hq)]
  refine kk _ (by rw [Array.getElem?_push_size, ← arrV_new]) (by rw [Array.size_push]) o1 ⟨Nat.le_trans hS.1 (by rw [Array.size_push]; omega), fun x h1 h2 => (o1 x (Nat.lt_of_lt_of_le h1 hS.1)).trans (hS.2.1 x h1 h2), hS.2.2⟩
/-- a number that is pushed -/
def pvA (i : Instr) : Option (AV × Nat) := match i with
  | .iconst n => some (vI (Int32.ofInt n), 1)
  | .bipush n => some (vI (Int8.ofInt n).toInt32, 2)
  | .sipush n => some (vI (Int16.ofInt n).toInt32, 3)
  | .lconst n => some (vL (Int64.ofNat n.val), 1)
  | _ => none
theorem w_push (hx : p.tables.exec = Jvm.exec) (hb : c.code = cc) {i : Instr} {v : AV} {pl : Nat} (hv : pvA i = some (v, pl)) (hdg : decode cc pc = .ok (i, pl)) (kk : W p l e R s m args below meth c H locs cells slots Q (F0 m (pc + pl) ls (zc ρ v :: rest))) : W p l e R s m args below meth c H locs cells slots Q (F0 m pc ls rest) := by
  unfold pvA at hv
  split at hv
  · cases hv; exact lv_iconst hx hb hdg rfl kk
  · cases hv; exact lv_bipush hx hb hdg rfl kk
  · cases hv; exact lv_sipush hx hb hdg rfl kk
  · cases hv; exact lv_lconst hx hb hdg rfl kk
  · cases hv
end WO
/-- push; what is done (0 int, 1 long, 2 boolean, 3 .. 6 array, 8 array of references); place of the field's link; field; place of the class's link; class -/
abbrev OP : Type := Instr × Nat × Nat × Nat × Nat × Nat
def opl (k : Nat) : Nat := match k with
  | 0 => 0
  | 1 => 0
  | 2 => 0
  | 8 => 3
  | _ => 2
def opN (c : Nat) (o : OP) : Nat := match o.2.1 with
  | 0 => 0
  | 1 => 0
  | 2 => 0
  | 8 => (ly c o.2.2.2.1).2 / 100
  | _ => (ly c o.2.2.2.1).2
def opC (o : OP) : Nat := match o.2.1 with
  | 0 => 0
  | 1 => 0
  | 2 => 0
  | _ => 1
def opT (k : Nat) : ArrayType := match k with
  | 4 => .long
  | 5 => .byte
  | 6 => .boolean
  | _ => .int
def opL (o : OP) : Nat := match pvA o.1 with
  | some (_, pl) => 1 + pl + opl o.2.1 + 3
  | none => 0
def ckR (cc : ByteArray) (c a ix pq : Nat) (v : AV) : Bool := match v with
  | .inl n => decide (¬ n < 0) && Nat.beq n.toNatClampNeg ((ly c a).2 / 100) && Nat.ble ((ly c a).2 / 100) 10000 && decide (decode cc pq = .ok (.anewarray ix, 3)) && (Nat.beq ((ly c a).2 % 100) 3 || Nat.beq ((ly c a).2 % 100) 6)
  | _ => false
def ckA (cc : ByteArray) (c a k pq : Nat) (v : AV) : Bool := match v with
  | .inl n => decide (¬ n < 0) && Nat.beq n.toNatClampNeg (ly c a).2 && Nat.ble (ly c a).2 10000 && decide (decode cc pq = .ok (.newarray (opT k), 2))
  | _ => false
def ckK (cc : ByteArray) (c a ix pq : Nat) (fI : Nat → Int32) (v : AV) (k : Nat) : Bool := match k with
  | 0 => decide (v = vI (fI a))
  | 1 => decide (v = vL 0)
  | 2 => decide (v = vI 0) && decide (fI a = 0)
  | 8 => ckR cc c a ix pq v
  | k => (Nat.beq k 3 || Nat.beq k 4 || Nat.beq k 5 || Nat.beq k 6) && ckA cc c a k pq v
theorem ckR_of {cc : ByteArray} {c a ix pq : Nat} {v : AV} (h : ckR cc c a ix pq v = true) : ∃ n : Int32, v = vI n ∧ ¬ n < 0 ∧ n.toNatClampNeg = (ly c a).2 / 100 ∧ (ly c a).2 / 100 ≤ 10000 ∧ decode cc pq = .ok (.anewarray ix, 3) ∧ ((ly c a).2 % 100 = 3 ∨ (ly c a).2 % 100 = 6) := by
  unfold ckR at h
  split at h
  · rename_i n
    simp only [Bool.and_eq_true, Bool.or_eq_true, decide_eq_true_eq] at h
    exact ⟨n, rfl, h.1.1.1.1, Nat.eq_of_beq_eq_true h.1.1.1.2, Nat.le_of_ble_eq_true h.1.1.2, h.1.2, h.2.imp Nat.eq_of_beq_eq_true Nat.eq_of_beq_eq_true⟩
  · cases h
theorem ckA_of {cc : ByteArray} {c a k pq : Nat} {v : AV} (h : ckA cc c a k pq v = true) : ∃ n : Int32, v = vI n ∧ ¬ n < 0 ∧ n.toNatClampNeg = (ly c a).2 ∧ (ly c a).2 ≤ 10000 ∧ decode cc pq = .ok (.newarray (opT k), 2) := by
  unfold ckA at h
  split at h
  · rename_i n
    simp only [Bool.and_eq_true, decide_eq_true_eq] at h
    exact ⟨n, rfl, h.1.1.1, Nat.eq_of_beq_eq_true h.1.1.2, Nat.le_of_ble_eq_true h.1.2, h.2⟩
  · cases h
theorem ckK_of {cc : ByteArray} {c a ix pq k : Nat} {fI : Nat → Int32} {v : AV} (h : ckK cc c a ix pq fI v k = true) (k0 : k ≠ 0) (k1 : k ≠ 1) (k2 : k ≠ 2) (k8 : k ≠ 8) : (k = 3 ∨ k = 4 ∨ k = 5 ∨ k = 6) ∧ ckA cc c a k pq v = true := by
  unfold ckK at h
  split at h
  · exact absurd rfl k0
  · exact absurd rfl k1
  · exact absurd rfl k2
  · exact absurd rfl k8
  · simp only [Bool.and_eq_true, Bool.or_eq_true] at h
    refine ⟨?_, h.2⟩
    rcases h.1 with ((g | g) | g) | g
    · exact Or.inl (Nat.eq_of_beq_eq_true g)
    · exact Or.inr (Or.inl (Nat.eq_of_beq_eq_true g))
    · exact Or.inr (Or.inr (Or.inl (Nat.eq_of_beq_eq_true g)))
    · exact Or.inr (Or.inr (Or.inr (Nat.eq_of_beq_eq_true g)))
def ckO (cc : ByteArray) (own c : Nat) (fI : Nat → Int32) (pc : Nat) (o : OP) : Bool := match pvA o.1 with
  | none => false
  | some (v, pl) => decide (decode cc pc = .ok (.aload_n 0, 1)) && decide (decode cc (pc + 1) = .ok (o.1, pl)) && decide (decode cc (pc + 1 + pl + opl o.2.1) = .ok (.putfield o.2.2.1, 3)) && inFT own o.2.2.1 c o.2.2.2.1 && decide ((tX c o.2.2.2.1).1 = rn own) && Nat.beq (ly c o.2.2.2.1).1 o.2.1 && Nat.blt o.2.2.2.1 (nf c) && ckK cc c o.2.2.2.1 o.2.2.2.2.1 (pc + 1 + pl) fI v o.2.1
def ckOs (cc : ByteArray) (own c : Nat) (fI : Nat → Int32) : Nat → List OP → Bool
  | _, [] => true
  | pc, o :: t => ckO cc own c fI pc o && ckOs cc own c fI (pc + opL o) t
def pcE : Nat → List OP → Nat
  | pc, [] => pc
  | pc, o :: t => pcE (pc + opL o) t
def sumC : List OP → Nat
  | [] => 0
  | o :: t => opC o + sumC t
def sumS (c : Nat) : List OP → Nat
  | [] => 0
  | o :: t => opN c o + sumS c t
def dnF : (Nat → Bool) → List OP → Nat → Bool
  | dn, [] => dn
  | dn, o :: t => dnF (updB dn o.2.2.2.1) t
