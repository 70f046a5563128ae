/-! ===== constructors: contracts, and their calls ===== -/
theorem df_ty {k : Nat} {ty : FieldType} (h : ktb k ty = true) : defaultValue ty = dfv k := by
  unfold ktb at h
  split at h <;> first | rfl | cases h
theorem vpV_bfs {c k : Nat} (h : k < nf c) : vp_V (bfs c) k = dfv (ly c k).1 := by
  show (bfs c).getD k _ = _
  unfold bfs
  rw [List.getD_eq_getElem?_getD, List.getElem?_map, List.getElem?_range h]; rfl
def iPc (D : va_G) (aC : Nat → ClassId) (ρ : Nat → Nat → Nat → Nat) (hs : List PS) (sz c q0 : Nat) : Array Value → State → Prop := fun v U => v = #[Value.ref q0] ∧ U.heap.size = sz ∧ RelH D aC ρ hs U.heap ∧ KK D aC U ∧ (c ≠ 3 → va_AO (rn 3) U ∧ va_AO (rn 6) U) ∧ va_at D zcl (q0, .inr (c, bfs c)) U.heap ∧ ∀ c' j a, vc hs c' j a → ρ c' j a ≠ q0
def iA (ρ : Nat → Nat → Nat → Nat) (hs : List PS) (sz q0 : Nat) : Nat → Prop := fun q => q = q0 ∨ zA ρ hs sz q
def iQ (D : va_G) (aC : Nat → ClassId) (ρ : Nat → Nat → Nat → Nat) (hs : List PS) (sz c q0 : Nat) (QI : List PS → Prop) : Array Value → State → Outcome → State → Prop := fun _ st o t => ∃ hs' ρ', o = .returned none ∧ QI hs' ∧ wf hs' ∧ RelH D aC ρ' hs' t.heap ∧ ext ρ hs ρ' hs' q0 ∧ ρ' c (cn hs c) 0 = q0 ∧ va_F (iA ρ hs sz q0) st t
def TriI (M : MI) (c d mc ms : Nat) (hs : List PS) (QI : List PS → Prop) : Prop := ∀ (l : Launch) (D : va_G) (aC : Nat → ClassId) (ρ : Nat → Nat → Nat → Nat) (sz q0 : Nat), Met l M.2.2.1 (WS M) (rmd d mc ms) (iPc D aC ρ hs sz c q0) (iQ D aC ρ hs sz c q0 QI) mc ms (iA ρ hs sz q0)
def Ci (p : Program) (s : State) (m : MethodId) (args : Array Value) (meth : Method) (cd : Code) (M : MI) (D : va_G) (aC : Nat → ClassId) : Prop := p.tables.exec = Jvm.exec ∧ cd.code = M.2.2.2.1 ∧ cd.maxLocals = M.2.2.2.2.1 ∧ s.vm.findClass (rn M.2.2.2.2.2.2) = some m.cls ∧ (∀ w ∈ GW, w.before args s = true) ∧ KK D aC s ∧ (M.2.2.2.2.2.2 ≠ 3 → va_AO (rn 3) s ∧ va_AO (rn 6) s) ∧ meth.sig.returnType = none ∧ meth.locks = false ∧ meth.name = "<init>"
theorem KK_call {D : va_G} {aC : Nat → ClassId} {U : State} {a : Array Value} {g : JFrame} {mk : MethodId} (h : KK D aC U) : KK D aC (U.calling g mk a) := by
  refine ⟨va_K.moved (u := U) (U := U.calling g mk a) (Vm.Alike.refl U.vm) h.1, fun w hw => ?_⟩
  have hn := (List.mem_filter.mp hw).2
  have hz := h.2 w hw
  cases w with
  | methodLinkNest q i x b => exact va_Nw.same rfl rfl hz
  | _ => cases hn
theorem AO_call {C : String} {U : State} {a : Array Value} {g : JFrame} {mk : MethodId} (h : va_AO C U) : va_AO C (U.calling g mk a) := va_AO.moved (u := U) (U := U.calling g mk a) (Vm.Alike.refl U.vm) h
theorem blind_iPc {D : va_G} {aC : Nat → ClassId} {ρ : Nat → Nat → Nat → Nat} {hs : List PS} {sz c q0 : Nat} : FrameBlind (iPc D aC ρ hs sz c q0) := by
  intro a U g mk h
  obtain ⟨h1, h2, h3, h4, h5, h6, h7⟩ := h
  exact ⟨h1, h2, h3, KK_call h4, fun g3 => ⟨AO_call (h5 g3).1, AO_call (h5 g3).2⟩, h6, h7⟩
theorem TriI_of {M : MI} {c d mc ms : Nat} {hs : List PS} {QI : List PS → Prop} (hy : plainName M.2.2.1.cls = true) (hn : M.2.2.1.cls = rn M.2.2.2.2.2.2) (hni : M.2.2.1.name = "<init>") (hl : 1 ≤ M.2.2.2.2.1) (hret : M.2.2.2.2.2.1 = none) (hoc : M.2.2.2.2.2.2 = c)
    (h : ∀ (p : Program) (l : Launch) (e : Env) (s : State) (m : MethodId) (below : List Frame) (meth : Method) (cd : Code) (D : va_G) (aC : Nat → ClassId) (ρ : Nat → Nat → Nat → Nat) (q0 : Nat) (ls : Array Slot), Ci p s m #[Value.ref q0] meth cd M D aC → lv_has ls M.2.2.2.2.1 [(0, .ref q0)] → RelH D aC ρ hs s.heap → va_at D zcl (q0, .inr (c, bfs c)) s.heap → (∀ c' j a, vc hs c' j a → ρ c' j a ≠ q0) → W p l e (rmd d mc ms) s m #[Value.ref q0] below meth cd s.heap [] 0 0 (MQ below (iQ D aC ρ hs s.heap.size c q0 QI) #[Value.ref q0] s mc ms (iA ρ hs s.heap.size q0)) (F0 m 0 ls [])) : TriI M c d mc ms hs QI := by
  intro l D aC ρ sz q0
  refine Met.ofW (cc := M.2.2.2.1) (maxL := M.2.2.2.2.1) (ret := M.2.2.2.2.2.1) hy rfl ?_
  intro p e s m args below meth c s₁ B hml hP
  obtain ⟨rfl, hsz, hR, hK, hAO, hat, hq⟩ := hP
  subst hsz
  have hts := atoms_spec (ws := WS M) B.pre
  have hown : s.vm.findClass (rn M.2.2.2.2.2.2) = some m.cls := by rw [← hn]; exact findClass_of_methodNamed B.named
  have hin : meth.name = "<init>" := by rw [← hni]; exact (name_of_methodNamed B.named B.method).1
  have hls := lv_entry [Value.ref q0] (n := M.2.2.2.2.1) hl
  rw [lg_entry_eq]
  exact h p l e s m below meth c D aC ρ q0 _ ⟨B.exec, B.bytes, hml, hown, fun w hw => hts w (List.mem_cons_of_mem _ hw), hK, (by rw [hoc]; exact hAO), hret ▸ B.returns, B.notSynchronized, hin⟩ hls hR hat hq
/-- what the tables say of a constructor -/
def iB (M : MI) (c : Nat) : Prop := Cond.code M.2.2.1 M.2.2.2.1 M.2.2.2.2.1 M.2.2.2.2.2.1 ∈ GW ∧ Cond.initialized M.2.2.1.cls ∈ GW ∧ M.2.2.2.2.1 ≤ 45 ∧ M.2.2.1.cls = rn c ∧ (M.2.2.1.cls ≠ "java/lang/invoke/MethodHandle" ∧ M.2.2.1.cls ≠ "java/lang/invoke/VarHandle" ∧ (parseMethodDescriptor M.2.2.1.desc).map (fun d => d.parameters.length) = some 0) ∧ M.2.2.1.name = "<init>" ∧ Cond.instanceMethod M.2.2.1 ∈ GW ∧ Cond.instantiable (rn c) (nf c) ∈ GW ∧ M.2.2.2.2.2.1 = none ∧ c < 13
theorem gi_I {M : MI} {c : Nat} (h : iB M c) : GoodIn GW (WS M) := by
  intro w hw
  rcases List.mem_cons.mp hw with rfl | hw
  · exact ⟨h.1, gw_good h.1⟩
  · exact ⟨hw, gw_good hw⟩
section WN
variable {p : Program} {l : Launch} {e : Env} {R : Room} {s : State} {m : MethodId} {args : Array Value} {below : List Frame} {meth : Method} {cd : Code} {H : Heap} {locs : List Loc} {cells slots : Nat} {Q : State → Prop} {cc : ByteArray} {ls : Array Slot} {D : va_G} {aC : Nat → ClassId} {ρ : Nat → Nat → Nat → Nat} {pc nL own c : Nat} {hs : List PS} {QI : List PS → Prop} {A : Nat → Prop} {H0 : Heap} {rest : List Value} {M : MI}
theorem w_new {idx ix d mc ms : Nat}
    (hx : p.tables.exec = Jvm.exec) (hb : cd.code = cc) (hml : cd.maxLocals = nL) (hown : s.vm.findClass (rn own) = some m.cls) (hts : ∀ w ∈ GW, w.before args s = true) (hKK : KK D aC s) (hAO : c ≠ 3 → va_AO (rn 3) s ∧ va_AO (rn 6) s) (hR : RelH D aC ρ hs H) (hS : va_S A H0 H locs) (hA : ∀ q, zA ρ hs H.size q → A q) (hsz : ls.size = nL)
    (hd1 : decode cc pc = .ok (.new idx, 3)) (hd2 : decode cc (pc + 3) = .ok (.dup, 1)) (hd3 : decode cc (pc + 4) = .ok (.invokespecial ix, 3)) (hcl : Cond.classLink (rn own) idx (rn c) ∈ GW)
    (hct : (Cond.methodLink (rn own) ix M.2.2.1 ∈ GW) ∨ ∃ host, Cond.methodLinkNest (rn own) ix M.2.2.1 (rn host) ∈ NW) (hI : iB M c) (hcat : (rest.map fun v => v.category).sum ≤ 7)
    (hfr : d + 2 ≤ R.frames) (hlo : 64 * (d + 2) ≤ R.locals) (hcs : cells + 1 + mc ≤ R.cells) (hss : slots + nf c + ms ≤ R.slots) (h : TriI M c d mc ms hs QI)
    (kk : ∀ (hs' : List PS) (ρ' : Nat → Nat → Nat → Nat) (H1 : Heap) (locs1 : List Loc), QI hs' → wf hs' → RelH D aC ρ' hs' H1 → ext ρ hs ρ' hs' H.size → H.size ≤ H1.size → (∀ q : Nat, q < H.size → ¬ zA ρ hs H.size q → H1[q]? = H[q]?) → va_S A H0 H1 locs1 → W p l e R s m args below meth cd H1 locs1 (cells + 1 + mc) (slots + nf c + ms) Q (F0 m (pc + 7) ls (.ref (ρ' c (cn hs c) 0) :: rest))) :
    W p l e R s m args below meth cd H locs cells slots Q (F0 m pc ls rest) := by
  obtain ⟨hcode, hinit, h45, hcls, hyd, hyn, hinm, hinst, hret, h13⟩ := id hI
  obtain ⟨hc, hin, hty, hnm⟩ := clF h13
  have hKn := hKK.1.1 c _ hc
  refine W.newcK hx hb hown (hts _ hcl) (hts _ hinst) (by rw [← hcls]; exact hts _ hinit) rfl hd1 (by omega) (by omega) hKn.2.1 rfl fun H1 kC hkC e1 z1 o1 => ?_
  have hat : va_at D zcl (H.size, .inr (c, bfs c)) H1 := ⟨_, hc, (u_born (tyz c) hts hin hKn hkC e1 hty).to (fun k hk => by rw [vpV_bfs hk]; exact df_ty (kt_of h13 hk))⟩
  have hR1 : RelH D aC ρ hs H1 := hR.kept (fun c' j a hv => o1 _ (hR.lt hv))
  have hS1 : va_S A H0 H1 locs := ⟨Nat.le_trans hS.1 (by omega), fun x h1 h2 => (o1 x (Nat.lt_of_lt_of_le h1 hS.1)).trans (hS.2.1 x h1 h2), hS.2.2⟩
  refine lv_dup hx hb hd2 rfl ?_
  have hM' := h l D aC ρ H1.size H.size
  have hroom : (rmd d mc ms).frames + 1 ≤ R.frames ∧ 8 + (M.2.2.2.2.1 + 11) + (rmd d mc ms).locals ≤ R.locals := by
    show d + 1 + 1 ≤ R.frames ∧ 8 + (M.2.2.2.2.1 + 11) + 64 * (d + 1) ≤ R.locals
    omega
  have hpre : PreS s H1 (iPc D aC ρ hs H1.size c H.size) (.ref H.size :: []) := ⟨blind_iPc, fun U hU hW => ⟨rfl, by rw [hU], by rw [hU]; exact hR1, KK_moved hKK hW, fun g3 => ⟨va_AO.moved hW.alike (hAO g3).1, va_AO.moved hW.alike (hAO g3).2⟩, by rw [hU]; exact hat, fun c' j a hv g => by have := hR.lt hv; omega⟩⟩
  have hgo : va_Run p l e R s m args below meth cd H1 locs (cells + 1) (slots + nf c) mc ms (F0 m (pc + 4) ls (.ref H.size :: .ref H.size :: rest)) (.ref H.size :: rest) (iQ D aC ρ hs H1.size c H.size QI (Value.ref H.size :: []).toArray) (iA ρ hs H1.size H.size) := by
    have hW : 2 * (F0 m (pc + 4) ls (.ref H.size :: .ref H.size :: rest)).monitorRoom + (((.ref H.size :: rest : List Value)).map fun v => v.category).sum ≤ 8 := by
      rw [List.map_cons, List.sum_cons]
      show 2 * 0 + (1 + _) ≤ 8
      omega
    rcases hct with hlink | ⟨host, hlink⟩
    · exact va_runI (As := []) ⟨hx, hb, hml, hown, hts⟩ hM' (cwI (Ts := GW) 0 hts (gi_I hI) (by rw [← hret]; rfl) rfl rfl (hts _ hinit) (hts _ hlink) (hts _ hinm) hyn hyd hroom) hpre rfl rfl hsz rfl hW hd3 ⟨hcs, hss⟩
    · exact va_runIN (As := []) (host := rn host) ⟨hx, hb, hml, hown, hts⟩ hM' ⟨va_cnB 0 hts (gi_I hI) (by rw [← hret]; rfl) rfl rfl (hKK.2 _ hlink) (hts _ hinit) hyd hroom, hyn, hts _ hinm⟩ hpre rfl rfl hsz rfl hW hd3 ⟨hcs, hss⟩
  intro T hT X
  obtain ⟨v, st₀, t, T', L, h0, X', hL, f1, f2, ⟨hs', ρ', ho, hQI, hwf', hR', hext, hq0, hF⟩, stp⟩ := hgo T hT X
  cases ho
  have sub : ∀ q : Nat, q < H.size → iA ρ hs H1.size H.size q → zA ρ hs H.size q := fun q hq g => by
    rcases g with g | g
    · omega
    · rcases g with g | g
      · exact Or.inl g
      · exact Or.inr (by omega)
  have subA : ∀ q : Nat, iA ρ hs H1.size H.size q → A q := fun q g => by
    rcases g with g | g
    · rw [g]; exact hA _ (Or.inr (Nat.le_refl _))
    · rcases g with g | g
      · exact hA _ (Or.inl g)
      · exact hA _ (Or.inr (by omega))
  have keep : ∀ q : Nat, q < H.size → ¬ zA ρ hs H.size q → T'.heap[q]? = H[q]? := fun q g1 g2 => by
    rw [f1, hF.2 q (by rw [h0]; omega) (fun g => g2 (sub q g1 g)), h0, o1 q g1]
  obtain ⟨t2, a1, b1⟩ := kk hs' ρ' T'.heap (locs ++ L) hQI hwf' (by rw [f1]; exact hR') hext (by rw [f1]; have := hF.1; rw [h0] at this; omega) keep
    ⟨by have := hF.1; rw [h0] at this; rw [f1]; have := hS1.1; omega, fun q g1 g2 => by
      have := hS.1
      rw [keep q (by omega) (fun g => g2 (hA q g))]
      exact hS.2.1 q g1 g2, fun q hq => by
      rcases List.mem_append.mp hq with g | g
      · exact hS.2.2 q g
      · exact subA _ (hL q g)⟩ T' rfl X'
  refine ⟨t2, stp t2 ?_, b1⟩
  rw [hq0] at a1
  exact a1
end WN
