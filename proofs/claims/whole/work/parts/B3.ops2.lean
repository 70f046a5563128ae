theorem nw_I {P : PS} {fI : Nat → Int32} {fO : Nat → Option Nat} (a : Nat) : gI (nwO P fI fO) (gN P) a = fI a := by show (if P.1 = P.1 then fI a else gI P P.1 a) = _; rw [if_pos rfl]
theorem nw_L {P : PS} {fI : Nat → Int32} {fO : Nat → Option Nat} (a : Nat) : gL (nwO P fI fO) (gN P) a = 0 := by show (if P.1 = P.1 then 0 else gL P P.1 a) = _; rw [if_pos rfl]
theorem nw_A {P : PS} {fI : Nat → Int32} {fO : Nat → Option Nat} (a : Nat) : gA (nwO P fI fO) (gN P) a = fun _ => 0 := by show (if P.1 = P.1 then (fun _ => 0) else gA P P.1 a) = _; rw [if_pos rfl]
theorem nw_B {P : PS} {fI : Nat → Int32} {fO : Nat → Option Nat} (a : Nat) : gB (nwO P fI fO) (gN P) a = fun _ => 0 := by show (if P.1 = P.1 then (fun _ => 0) else gB P P.1 a) = _; rw [if_pos rfl]
theorem nw_O {P : PS} {fI : Nat → Int32} {fO : Nat → Option Nat} (a : Nat) : gO (nwO P fI fO) (gN P) a = fO a := by show (if P.1 = P.1 then fO a else gO P P.1 a) = _; rw [if_pos rfl]
theorem nw_R {P : PS} {fI : Nat → Int32} {fO : Nat → Option Nat} (a : Nat) : gR (nwO P fI fO) (gN P) a = fun _ => none := by show (if P.1 = P.1 then (fun _ => none) else gR P P.1 a) = _; rw [if_pos rfl]
theorem fv_i {ρ : Nat → Nat → Nat → Nat} {c j a : Nat} {P : PS} (h : (ly c a).1 = 0 ∨ (ly c a).1 = 2) : fval ρ c j P a = .int (gI P j a) := by
  unfold fval
  rcases h with h | h <;> (rw [h])
  · rfl
  · rfl
theorem fv_l {ρ : Nat → Nat → Nat → Nat} {c j a : Nat} {P : PS} (h : (ly c a).1 = 1) : fval ρ c j P a = .long (gL P j a) := by
  unfold fval; rw [h]; rfl
theorem fv_a {ρ : Nat → Nat → Nat → Nat} {c j a : Nat} {P : PS} (h : isAr (ly c a).1 = true) : fval ρ c j P a = .ref (ρ c j (a + 1)) := by
  unfold isAr at h
  simp only [Bool.or_eq_true] at h
  unfold fval
  rcases h with (((g | g) | g) | g) | g <;> (rw [Nat.eq_of_beq_eq_true g]; rfl)
theorem kt_at {c a k : Nat} (hc : c < 13) (ha : a < nf c) (hk : (ly c a).1 = k) : ktb k (tyz c a) = true := by
  have := kt_of hc ha
  rw [hk] at this; exact this
section WO3
variable {p : Program} {l : Launch} {e : Env} {R : Room} {s : State} {m : MethodId} {args : Array Value} {below : List Frame} {meth : Method} {cd : Code} {Q : State → Prop} {cc : ByteArray} {ls : Array Slot} {D : va_G} {aC : Nat → ClassId} {ρ : Nat → Nat → Nat → Nat} {own c q0 sz : Nat} {hs : List PS} {A : Nat → Prop} {H0 : Heap} {fI : Nat → Int32} {fO : Nat → Option Nat}
theorem w_op (hx : p.tables.exec = Jvm.exec) (hb : cd.code = cc) (hown : s.vm.findClass (rn own) = some m.cls) (hts : ∀ w ∈ GW, w.before args s = true) (hK : KK D aC s) (hAO : c ≠ 3 → va_AO (rn 3) s ∧ va_AO (rn 6) s) (h13 : c < 13) (hini : meth.name = "<init>") (hl0 : ls[0]? = some (.val (.ref q0))) (hA : A q0) {o : OP} {pc : Nat} {α : Nat → Nat} {dn : Nat → Bool} {H : Heap} {locs : List Loc} {cells slots : Nat}
    (hck : ckO cc own c fI pc o = true) (hcl : o.2.1 = 8 → Cond.classLink (rn own) o.2.2.2.2.1 (rn ((ly c o.2.2.2.1).2 % 100)) ∈ GW) (hC : Con D aC ρ hs c q0 sz α dn (nwO (hp hs c) fI fO) H) (hS : va_S A H0 H locs) (hcs : cells + opC o ≤ R.cells) (hss : slots + opN c o ≤ R.slots)
    (kk : ∀ (α' : Nat → Nat) (H' : Heap) (locs' : List Loc), Con D aC ρ hs c q0 sz α' (updB dn o.2.2.2.1) (nwO (hp hs c) fI fO) H' → va_S A H0 H' locs' → W p l e R s m args below meth cd H' locs' (cells + opC o) (slots + opN c o) Q (F0 m (pc + opL o) ls [])) : W p l e R s m args below meth cd H locs cells slots Q (F0 m pc ls []) := by
  obtain ⟨i, k, idx, a, ix, z⟩ := o
  unfold ckO at hck
  unfold opL at kk
  cases hv : pvA i with
  | none => rw [hv] at hck; cases hck
  | some vp =>
    obtain ⟨v, pl⟩ := vp
    rw [hv] at hck kk
    dsimp only at hck kk hcl hcs hss
    obtain ⟨hck, hm⟩ := ck2 hck
    obtain ⟨hck, hlt⟩ := ck2 hck
    obtain ⟨hck, hkd⟩ := ck2 hck
    obtain ⟨hck, hdc⟩ := ck2 hck
    obtain ⟨hck, hft⟩ := ck2 hck
    obtain ⟨hck, hd3⟩ := ck2 hck
    obtain ⟨hd1, hd2⟩ := ck2 hck
    replace hd1 := of_decide_eq_true hd1
    replace hd2 := of_decide_eq_true hd2
    replace hd3 := of_decide_eq_true hd3
    replace hdc := of_decide_eq_true hdc
    replace hkd := Nat.eq_of_beq_eq_true hkd
    have ha : a < nf c := Nat.le_of_ble_eq_true hlt
    obtain ⟨t, hF⟩ := any_FT hft
    have kt := kt_at h13 ha hkd
    have cnn : cn hs c = gN (hp hs c) := rfl
    refine lv_aload_n hx hb hd1 rfl hl0 ?_
    refine w_push (ρ := ρ) hx hb hv hd2 ?_
    have at0 := hC.2.1
    have lenq : a < (cfs (rx ρ c (cn hs c) q0 α) c (cn hs c) (nwO (hp hs c) fI fO) dn).length := by rw [cfs_len]; exact ha
    have arrC : ∀ (N : Nat) (H1 : Heap), isAr (ly c a).1 = true → (∀ ρ' : Nat → Nat → Nat → Nat, ae aC ρ' c (cn hs c) (nwO (hp hs c) fI fO) a = ae aC ρ c (cn hs c) (nwO (hp hs c) fI fO) a) → (∀ e', ae aC ρ c (cn hs c) (nwO (hp hs c) fI fO) a = some e' → va_at D zcl (H.size, e') H1) → H1.size = H.size + 1 → (∀ q : Nat, q < H.size → H1[q]? = H[q]?) → va_S A H0 H1 locs → opC (i, k, idx, a, ix, z) = 1 → opN c (i, k, idx, a, ix, z) = N → fits (tyz c a) (.ref H.size) = true → narrow (tyz c a) (.ref H.size) = .ref H.size → W p l e R s m args below meth cd H1 locs (cells + 1) (slots + N) Q (F0 m (pc + 1 + pl + opl k) ls [.ref H.size, .ref q0]) := by
      intro N H1 hr hae hc' hz ho hS1 e1 e2 hfit hnar
      have lt0 : q0 < H.size := at0.lt
      refine c_put (ci := c) (a := a) hx hb hown hts hK h13 (fs := cfs (rx ρ c (cn hs c) q0 α) c (cn hs c) (nwO (hp hs c) fI fO) dn) (at0.kept (ho _ lt0)) hF hini hdc lenq hA hS1 hnar hfit hd3 (fun H2 locs2 g1 g2 g3 g4 => ?_)
      have hfv : fval (rx ρ c (cn hs c) q0 (updN α a H.size)) c (cn hs c) (nwO (hp hs c) fI fO) a = .ref H.size := by
        rw [fv_a hr, rx_n]; unfold updN; rw [if_pos rfl]
      have := kk (updN α a H.size) H2 locs2 (hC.arr hr hfv hc' hae hz ho g1 g2 g3) g4
      rw [e1, e2, show pc + (1 + pl + opl k + 3) = pc + 1 + pl + opl k + 3 by omega] at this
      exact this
    by_cases k0 : k = 0
    · subst k0
      replace hm := of_decide_eq_true hm
      subst hm
      have ty : tyz c a = .int := by revert kt; cases tyz c a <;> intro kt <;> first | rfl | cases kt
      refine c_put (ci := c) (a := a) hx hb hown hts hK h13 at0 hF hini hdc lenq hA hS (v := .int (fI a)) (by rw [ty]; rfl) (by rw [ty]; rfl) hd3 (fun H1 locs1 g1 g2 g3 g4 => ?_)
      have := kk α H1 locs1 (hC.set (a := a) (by rw [fv_i (Or.inl hkd), cnn, nw_I]) (by rw [hkd]; rfl) g1 g2 g3) g4
      rw [show pc + (1 + pl + opl 0 + 3) = pc + 1 + pl + 3 by show pc + (1 + pl + 0 + 3) = _; omega] at this
      exact this
    by_cases k1 : k = 1
    · subst k1
      replace hm := of_decide_eq_true hm
      subst hm
      have ty : tyz c a = .long := by revert kt; cases tyz c a <;> intro kt <;> first | rfl | cases kt
      refine c_put (ci := c) (a := a) hx hb hown hts hK h13 at0 hF hini hdc lenq hA hS (v := .long 0) (by rw [ty]; rfl) (by rw [ty]; rfl) hd3 (fun H1 locs1 g1 g2 g3 g4 => ?_)
      have := kk α H1 locs1 (hC.set (a := a) (by rw [fv_l hkd, cnn, nw_L]) (by rw [hkd]; rfl) g1 g2 g3) g4
      rw [show pc + (1 + pl + opl 1 + 3) = pc + 1 + pl + 3 by show pc + (1 + pl + 0 + 3) = _; omega] at this
      exact this
    by_cases k2 : k = 2
    · subst k2
      obtain ⟨hm, hz⟩ := ck2 hm
      replace hm := of_decide_eq_true hm
      replace hz := of_decide_eq_true hz
      subst hm
      have ty : tyz c a = .boolean := by revert kt; cases tyz c a <;> intro kt <;> first | rfl | cases kt
      refine c_put (ci := c) (a := a) hx hb hown hts hK h13 at0 hF hini hdc lenq hA hS (v := .int 0) (by rw [ty]; rfl) (by rw [ty]; rfl) hd3 (fun H1 locs1 g1 g2 g3 g4 => ?_)
      have := kk α H1 locs1 (hC.set (a := a) (by rw [fv_i (Or.inr hkd), cnn, nw_I]; show Value.int 0 = Value.int (fI a); rw [hz]) (by rw [hkd]; rfl) g1 g2 g3) g4
      rw [show pc + (1 + pl + opl 2 + 3) = pc + 1 + pl + 3 by show pc + (1 + pl + 0 + 3) = _; omega] at this
      exact this
    by_cases k8 : k = 8
    · subst k8
      obtain ⟨n, hvn, hn, hN, hsm, hd, h36⟩ := ckR_of hm
      subst hvn
      · have hr : isAr (ly c a).1 = true := by rw [hkd]; rfl
        have tyA : ∃ y, tyz c a = .array (.object y) := by
          revert kt
          cases htz : tyz c a with
          | array y =>
            cases y with
            | object y => intro _; exact ⟨y, rfl⟩
            | _ => intro kt; cases kt
          | _ => intro kt; cases kt
        obtain ⟨y, ty⟩ := tyA
        have tt : ∃ t0 : Nat, (tys aC)[t0]? = some (aC (10 + (ly c a).2 % 100), FieldType.object (rn ((ly c a).2 % 100))) := by
          rcases h36 with g | g <;> rw [g]
          · exact ⟨4, rfl⟩
          · exact ⟨5, rfl⟩
        obtain ⟨t0, tt⟩ := tt
        have c3 : c ≠ 3 := fun e3 => by
          have e4 := List.all_eq_true.mp (by decide +kernel : ((List.range (nf 3)).all fun a => !(Nat.beq (ly 3 a).1 8)) = true) a (List.mem_range.mpr (by rw [← e3]; exact ha))
          rw [← e3, hkd] at e4
          cases e4
        have ov : va_AO (rn ((ly c a).2 % 100)) s := by
          rcases h36 with g | g <;> rw [g]
          · exact (hAO c3).1
          · exact (hAO c3).2
        refine c_anew (N := (ly c a).2 / 100) hx hb hown (hts _ (hcl rfl)) ov hK tt hS hn hN (by omega) hcs hss hd (fun H1 g1 g2 g3 g4 => ?_)
        refine arrC ((ly c a).2 / 100) H1 hr (fun ρ' => ?_) (fun e' he => ?_) g2 g3 g4 rfl rfl (by rw [ty]; rfl) (by rw [ty]; rfl)
        · unfold ae; rw [hkd, cnn, nw_R]; rfl
        · unfold ae at he
          rw [hkd, cnn, nw_R] at he
          cases he
          show H1[H.size]? = some (vp_cell _ _)
          rw [vp_cell_q]; exact g1
    · obtain ⟨k36, hm2⟩ := ckK_of hm k0 k1 k2 k8
      obtain ⟨n, hvn, hn, hN, hsm, hd⟩ := ckA_of hm2
      subst hvn
      · rcases k36 with rfl | rfl | rfl | rfl
        · have ty : tyz c a = .array .int := by
            revert kt
            cases htz : tyz c a with
            | array y => cases y <;> intro kt <;> first | rfl | cases kt
            | _ => intro kt; cases kt
          refine c_newa (atype := .int) (ty := .int) (N := (ly c a).2) (t0 := 0) hx hb rfl (hts _ ac_int) hK rfl (fun h => h) hS hn hN (by show _ * 4 ≤ _; omega) hcs hss hd (fun H1 g1 g2 g3 g4 => ?_)
          refine arrC (ly c a).2 H1 (by rw [hkd]; rfl) (fun ρ' => by unfold ae; rw [hkd]; rfl) (fun e' he => ?_) g2 g3 g4 rfl rfl (by rw [ty]; rfl) (by rw [ty]; rfl)
          unfold ae at he
          rw [hkd, cnn, nw_A] at he
          cases he
          exact g1
        · have ty : tyz c a = .array .long := by
            revert kt
            cases htz : tyz c a with
            | array y => cases y <;> intro kt <;> first | rfl | cases kt
            | _ => intro kt; cases kt
          refine c_newa (atype := .long) (ty := .long) (N := (ly c a).2) (t0 := 1) hx hb rfl (hts _ ac_long) hK rfl (fun h => h) hS hn hN (by show _ * 8 ≤ _; omega) hcs hss hd (fun H1 g1 g2 g3 g4 => ?_)
          refine arrC (ly c a).2 H1 (by rw [hkd]; rfl) (fun ρ' => by unfold ae; rw [hkd]; rfl) (fun e' he => ?_) g2 g3 g4 rfl rfl (by rw [ty]; rfl) (by rw [ty]; rfl)
          unfold ae at he
          rw [hkd, cnn, nw_B] at he
          cases he
          exact g1
        · have ty : tyz c a = .array .byte := by
            revert kt
            cases htz : tyz c a with
            | array y => cases y <;> intro kt <;> first | rfl | cases kt
            | _ => intro kt; cases kt
          refine c_newa (atype := .byte) (ty := .byte) (N := (ly c a).2) (t0 := 2) hx hb rfl (hts _ ac_byte) hK rfl (fun h => h) hS hn hN (by show _ * 1 ≤ _; omega) hcs hss hd (fun H1 g1 g2 g3 g4 => ?_)
          refine arrC (ly c a).2 H1 (by rw [hkd]; rfl) (fun ρ' => by unfold ae; rw [hkd]; rfl) (fun e' he => ?_) g2 g3 g4 rfl rfl (by rw [ty]; rfl) (by rw [ty]; rfl)
          unfold ae at he
          rw [hkd, cnn, nw_A] at he
          cases he
          exact g1
        · have ty : tyz c a = .array .boolean := by
            revert kt
            cases htz : tyz c a with
            | array y => cases y <;> intro kt <;> first | rfl | cases kt
            | _ => intro kt; cases kt
          refine c_newa (atype := .boolean) (ty := .boolean) (N := (ly c a).2) (t0 := 3) hx hb rfl (hts _ ac_bool) hK rfl (fun h => h) hS hn hN (by show _ * 1 ≤ _; omega) hcs hss hd (fun H1 g1 g2 g3 g4 => ?_)
          refine arrC (ly c a).2 H1 (by rw [hkd]; rfl) (fun ρ' => by unfold ae; rw [hkd]; rfl) (fun e' he => ?_) g2 g3 g4 rfl rfl (by rw [ty]; rfl) (by rw [ty]; rfl)
          unfold ae at he
          rw [hkd, cnn, nw_A] at he
          cases he
          exact g1
theorem w_ops (hx : p.tables.exec = Jvm.exec) (hb : cd.code = cc) (hown : s.vm.findClass (rn own) = some m.cls) (hts : ∀ w ∈ GW, w.before args s = true) (hK : KK D aC s) (hAO : c ≠ 3 → va_AO (rn 3) s ∧ va_AO (rn 6) s) (h13 : c < 13) (hini : meth.name = "<init>") (hl0 : ls[0]? = some (.val (.ref q0))) (hA : A q0) : ∀ (ops : List OP) (pc : Nat) (α : Nat → Nat) (dn : Nat → Bool) (H : Heap) (locs : List Loc) (cells slots : Nat), ckOs cc own c fI pc ops = true → (∀ o ∈ ops, o.2.1 = 8 → Cond.classLink (rn own) o.2.2.2.2.1 (rn ((ly c o.2.2.2.1).2 % 100)) ∈ GW) → Con D aC ρ hs c q0 sz α dn (nwO (hp hs c) fI fO) H → va_S A H0 H locs → cells + sumC ops ≤ R.cells → slots + sumS c ops ≤ R.slots →
    (∀ (α' : Nat → Nat) (H' : Heap) (locs' : List Loc), Con D aC ρ hs c q0 sz α' (dnF dn ops) (nwO (hp hs c) fI fO) H' → va_S A H0 H' locs' → W p l e R s m args below meth cd H' locs' (cells + sumC ops) (slots + sumS c ops) Q (F0 m (pcE pc ops) ls [])) → W p l e R s m args below meth cd H locs cells slots Q (F0 m pc ls [])
  | [], pc, α, dn, H, locs, cells, slots, _, _, hC, hS, _, _, kk => kk α H locs hC hS
  | o :: ops, pc, α, dn, H, locs, cells, slots, hck, hcl, hC, hS, hcs, hss, kk => by
    obtain ⟨h1, h2⟩ := ck2 hck
    have e1 : sumC (o :: ops) = opC o + sumC ops := rfl
    have e2 : sumS c (o :: ops) = opN c o + sumS c ops := rfl
    refine w_op hx hb hown hts hK hAO h13 hini hl0 hA h1 (hcl o (List.mem_cons_self ..)) hC hS (by omega) (by omega) (fun α' H' locs' hC' hS' => ?_)
    refine w_ops hx hb hown hts hK hAO h13 hini hl0 hA ops (pc + opL o) α' (updB dn o.2.2.2.1) H' locs' (cells + opC o) (slots + opN c o) h2 (fun o' ho => hcl o' (List.mem_cons_of_mem _ ho)) hC' hS' (by omega) (by omega) (fun α2 H2 locs2 hC2 hS2 => ?_)
    have := kk α2 H2 locs2 hC2 hS2
    rw [e1, e2, ← Nat.add_assoc, ← Nat.add_assoc] at this
    exact this
end WO3
