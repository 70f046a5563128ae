/-! ===== the one String ===== -/
abbrev OTX : String := "star    at      light   eye     wide    unit    far     noise   off     bar     step    needs   lean    room    pair    trust   when    dots    named   namings specks  smears  told    stretch and     or      not     "
def SB : List Int32 := [115, 116, 97, 114, 32, 32, 32, 32, 97, 116, 32, 32, 32, 32, 32, 32, 108, 105, 103, 104, 116, 32, 32, 32, 101, 121, 101, 32, 32, 32, 32, 32, 119, 105, 100, 101, 32, 32, 32, 32, 117, 110, 105, 116, 32, 32, 32, 32, 102, 97, 114, 32, 32, 32, 32, 32, 110, 111, 105, 115, 101, 32, 32, 32, 111, 102, 102, 32, 32, 32, 32, 32, 98, 97, 114, 32, 32, 32, 32, 32, 115, 116, 101, 112, 32, 32, 32, 32, 110, 101, 101, 100, 115, 32, 32, 32, 108, 101, 97, 110, 32, 32, 32, 32, 114, 111, 111, 109, 32, 32, 32, 32, 112, 97, 105, 114, 32, 32, 32, 32, 116, 114, 117, 115, 116, 32, 32, 32, 119, 104, 101, 110, 32, 32, 32, 32, 100, 111, 116, 115, 32, 32, 32, 32, 110, 97, 109, 101, 100, 32, 32, 32, 110, 97, 109, 105, 110, 103, 115, 32, 115, 112, 101, 99, 107, 115, 32, 32, 115, 109, 101, 97, 114, 115, 32, 32, 116, 111, 108, 100, 32, 32, 32, 32, 115, 116, 114, 101, 116, 99, 104, 32, 97, 110, 100, 32, 32, 32, 32, 32, 111, 114, 32, 32, 32, 32, 32, 32, 110, 111, 116, 32, 32, 32, 32, 32]
def StE (b aK aV : Nat) (v9 : Value) (U : State) (H : Heap) : Prop := vk_S 1 [216] [SB] (fun _ => aK) (fun _ => aV) (fun q => b ≤ q) U H ∧ va_Z "java/lang/String" "COMPACT_STRINGS" "Z" (.int 1) (fun q => b ≤ q) U H ∧ va_Z "jdk/internal/util/Preconditions" "SIOOBE_FORMATTER" "Ljava/util/function/BiFunction;" v9 (fun q => b ≤ q) U H ∧ v9.category = 1
theorem StE.moved {b aK aV : Nat} {v9 : Value} {u U : State} {H : Heap} (hvm : u.vm.Alike U.vm) (h : StE b aK aV v9 u H) : StE b aK aV v9 U H := ⟨h.1.moved hvm, h.2.1.moved hvm, h.2.2.1.moved hvm, h.2.2.2⟩
theorem StE.kept {b aK aV : Nat} {v9 : Value} {U : State} {H H1 : Heap} (h : StE b aK aV v9 U H) (hq : ∀ a : Nat, a < b → H1[a]? = H[a]?) : StE b aK aV v9 U H1 := ⟨h.1.kept (fun a _ g => hq a (by omega)), h.2.1.kept (fun a _ g => hq a (by omega)), h.2.2.1.kept (fun a _ g => hq a (by omega)), h.2.2.2⟩
/-- a method of Strings: what it answers, and that it changes nothing -/
def sPc (b aK aV : Nat) (v9 : Value) (av : List Value) : Array Value → State → Prop := fun v U => v = av.toArray ∧ StE b aK aV v9 U U.heap
def sQ (r : Option Value) : Array Value → State → Outcome → State → Prop := fun _ st o t => o = .returned r ∧ t.heap = st.heap
def sMet (M : MI) (d b aK aV : Nat) (v9 : Value) (av : List Value) (r : Option Value) : Prop := ∀ l : Launch, Met l M.2.2.1 (WS M) (rmd d 0 0) (sPc b aK aV v9 av) (sQ r) 0 0 (fun _ => False)
def Cs (p : Program) (s : State) (m : MethodId) (args : Array Value) (meth : Method) (cd : Code) (M : MI) : Prop := p.tables.exec = Jvm.exec ∧ cd.code = M.2.2.2.1 ∧ cd.maxLocals = M.2.2.2.2.1 ∧ s.vm.findClass (rn M.2.2.2.2.2.2) = some m.cls ∧ (∀ w ∈ GW, w.before args s = true) ∧ meth.sig.returnType = M.2.2.2.2.2.1 ∧ meth.locks = false
theorem blind_sPc {b aK aV : Nat} {v9 : Value} {av : List Value} : FrameBlind (sPc b aK aV v9 av) := by
  intro a U g mk h
  exact ⟨h.1, StE.moved (u := U) (U := U.calling g mk a) (Vm.Alike.refl U.vm) h.2⟩
theorem sMet_of {M : MI} {d b aK aV : Nat} {v9 : Value} {av : List Value} {r : Option Value} (hy : plainName M.2.2.1.cls = true) (hn : M.2.2.1.cls = rn M.2.2.2.2.2.2) (hl : (lg_sl av).length ≤ M.2.2.2.2.1)
    (h : ∀ (p : Program) (l : Launch) (e : Env) (s : State) (m : MethodId) (below : List Frame) (meth : Method) (cd : Code) (ls : Array Slot), Cs p s m av.toArray meth cd M → lv_has ls M.2.2.2.2.1 (lv_args 0 av) → StE b aK aV v9 s s.heap → W p l e (rmd d 0 0) s m av.toArray below meth cd s.heap [] 0 0 (MQ below (sQ r) av.toArray s 0 0 (fun _ => False)) (F0 m 0 ls [])) : sMet M d b aK aV v9 av r := by
  intro l
  refine Met.ofW (cc := M.2.2.2.1) (maxL := M.2.2.2.2.1) (ret := M.2.2.2.2.2.1) hy rfl ?_
  intro p e s m args below meth c s₁ B hml hP
  obtain ⟨rfl, hE⟩ := hP
  have hts := atoms_spec (ws := WS M) B.pre
  have hown : s.vm.findClass (rn M.2.2.2.2.2.2) = some m.cls := by rw [← hn]; exact findClass_of_methodNamed B.named
  have hls := lv_entry av (n := M.2.2.2.2.1) hl
  rw [lg_entry_eq]
  exact h p l e s m below meth c _ ⟨B.exec, B.bytes, hml, hown, fun w hw => hts w (List.mem_cons_of_mem _ hw), B.returns, B.notSynchronized⟩ hls hE
def sJ (M : MI) (k : Nat) : Prop := Cond.code M.2.2.1 M.2.2.2.1 M.2.2.2.2.1 M.2.2.2.2.2.1 ∈ GW ∧ Cond.initialized M.2.2.1.cls ∈ GW ∧ M.2.2.2.2.1 ≤ 45 ∧ (M.2.2.1.cls ≠ "java/lang/invoke/MethodHandle" ∧ M.2.2.1.cls ≠ "java/lang/invoke/VarHandle" ∧ (parseMethodDescriptor M.2.2.1.desc).map (fun d => d.parameters.length) = some k)
theorem gi_s {M : MI} {k : Nat} (h : sJ M k) : GoodIn GW (WS M) := by
  intro w hw
  rcases List.mem_cons.mp hw with rfl | hw
  · exact ⟨h.1, gw_good h.1⟩
  · exact ⟨hw, gw_good hw⟩
section WS_
variable {p : Program} {l : Launch} {e : Env} {R : Room} {s : State} {m : MethodId} {args : Array Value} {below : List Frame} {meth : Method} {cd : Code} {H : Heap} {locs : List Loc} {cells slots : Nat} {Q : State → Prop} {cc : ByteArray} {ls : Array Slot} {pc nL own b aK aV : Nat} {v9 : Value} {rest As : List Value} {M : MI} {d x k : Nat} {r : Option Value}
theorem s_on {g : List Value} {a : Array Value} (hgo : va_Run p l e R s m args below meth cd H locs cells slots 0 0 (F0 m pc ls g) rest (sQ r a) (fun _ => False)) (kk : W p l e R s m args below meth cd H locs cells slots Q (F0 m (pc + 3) ls (r.toList ++ rest))) : W p l e R s m args below meth cd H locs cells slots Q (F0 m pc ls g) := by
  intro T hT X
  obtain ⟨v, st₀, t, T', L, h0, X', hL, e1, e2, ⟨ho, hh⟩, stp⟩ := hgo T hT X
  cases ho
  have hn : L = [] := List.eq_nil_iff_forall_not_mem.mpr (fun q hq => hL q hq)
  subst hn
  rw [List.append_nil] at X'
  obtain ⟨t2, a1, b1⟩ := kk T' (by rw [e1, hh, h0]) X'
  exact ⟨t2, stp t2 a1, b1⟩
theorem w_sv (hx : p.tables.exec = Jvm.exec) (hb : cd.code = cc) (hml : cd.maxLocals = nL) (hown : s.vm.findClass (rn own) = some m.cls) (hts : ∀ w ∈ GW, w.before args s = true) (hsz : ls.size = nL) (hE : StE b aK aV v9 s H) (hdec : decode cc pc = .ok (.invokevirtual x, 3)) (hlink : Cond.methodLink (rn own) x M.2.2.1 ∈ GW) (hB : sJ M k) (hcls : M.2.2.1.cls = "java/lang/String") (hin : Cond.instanceMethod M.2.2.1 ∈ GW) (hsel : Cond.selects "java/lang/String" M.2.2.1 M.2.2.1 ∈ GW) (hlen : As.length = k) (hcat : (rest.map fun v => v.category).sum ≤ 8) (hfr : d + 2 ≤ R.frames) (hlo : 64 * (d + 2) ≤ R.locals) (hcs : cells ≤ R.cells ∧ slots ≤ R.slots) (h : sMet M d b aK aV v9 (.ref aK :: As) r) (kk : W p l e R s m args below meth cd H locs cells slots Q (F0 m (pc + 3) ls (r.toList ++ rest))) : W p l e R s m args below meth cd H locs cells slots Q (F0 m pc ls (As.reverse ++ .ref aK :: rest)) := by
  have hroom : (rmd d 0 0).frames + 1 ≤ R.frames ∧ 8 + (M.2.2.2.2.1 + 11) + (rmd d 0 0).locals ≤ R.locals := by
    have := hB.2.2.1
    show d + 1 + 1 ≤ R.frames ∧ 8 + (M.2.2.2.2.1 + 11) + 64 * (d + 1) ≤ R.locals
    omega
  have hpre : PreV s H "java/lang/String" aK (sPc b aK aV v9 (.ref aK :: As)) As := by
    refine ⟨blind_sPc, ?_, fun U hU hW => ⟨rfl, by rw [hU]; exact hE.moved hW.alike⟩⟩
    obtain ⟨cell, h1, h2, h3, -⟩ := (hE.1.1 0 (by omega)).1
    exact ⟨cell, h1, h2, h3⟩
  refine s_on (rest := rest) (va_runV ⟨hx, hb, hml, hown, hts⟩ (h l) (cwV (Ts := GW) (C := "java/lang/String") k hts ?_ rfl rfl rfl ⟨hcls, hB.2.2.2⟩ hroom) hpre rfl hlen hsz rfl (by show 2 * 0 + _ ≤ 8; omega) hdec hcs) kk
  intro w hw
  rcases List.mem_append.mp hw with hw | hw
  · have hw' : w = .methodLink (rn own) x M.2.2.1 ∨ w = .instanceMethod M.2.2.1 ∨ w = .selects "java/lang/String" M.2.2.1 M.2.2.1 ∨ w = .initialized "java/lang/String" := by simpa using hw
    have : w ∈ GW := by
      rcases hw' with rfl | rfl | rfl | rfl
      · exact hlink
      · exact hin
      · exact hsel
      · rw [← hcls]; exact hB.2.1
    exact ⟨this, gw_good this⟩
  · exact gi_s hB w hw
theorem w_ss (hx : p.tables.exec = Jvm.exec) (hb : cd.code = cc) (hml : cd.maxLocals = nL) (hown : s.vm.findClass (rn own) = some m.cls) (hts : ∀ w ∈ GW, w.before args s = true) (hsz : ls.size = nL) (hE : StE b aK aV v9 s H) (hdec : decode cc pc = .ok (.invokestatic x, 3)) (hlink : Cond.methodLink (rn own) x M.2.2.1 ∈ GW) (hB : sJ M k) (hst : Cond.static M.2.2.1 ∈ GW) (hlen : As.length = k) (hcat : (rest.map fun v => v.category).sum ≤ 8) (hfr : d + 2 ≤ R.frames) (hlo : 64 * (d + 2) ≤ R.locals) (hcs : cells ≤ R.cells ∧ slots ≤ R.slots) (h : sMet M d b aK aV v9 As r) (kk : W p l e R s m args below meth cd H locs cells slots Q (F0 m (pc + 3) ls (r.toList ++ rest))) : W p l e R s m args below meth cd H locs cells slots Q (F0 m pc ls (As.reverse ++ rest)) := by
  have hroom : (rmd d 0 0).frames + 1 ≤ R.frames ∧ 8 + (M.2.2.2.2.1 + 11) + (rmd d 0 0).locals ≤ R.locals := by
    have := hB.2.2.1
    show d + 1 + 1 ≤ R.frames ∧ 8 + (M.2.2.2.2.1 + 11) + 64 * (d + 1) ≤ R.locals
    omega
  have hpre : PreS s H (sPc b aK aV v9 As) As := ⟨blind_sPc, fun U hU hW => ⟨rfl, by rw [hU]; exact hE.moved hW.alike⟩⟩
  exact s_on (rest := rest) (va_runS ⟨hx, hb, hml, hown, hts⟩ (h l) ⟨callB_of k hts (gi_s hB) rfl rfl rfl (hts _ hB.2.1) (hts _ hlink) hB.2.2.2 hroom, hts _ hst⟩ hpre rfl hlen hsz rfl (by show 2 * 0 + _ ≤ 8; omega) hdec hcs) kk
end WS_
