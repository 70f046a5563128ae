/-! ===== calls, from anywhere ===== -/
section WC
variable {p : Program} {l : Launch} {e : Env} {R : Room} {s : State} {m : MethodId} {args : Array Value} {below : List Frame} {meth : Method} {c : Code} {H : Heap} {locs : List Loc} {cells slots : Nat} {Q : State → Prop} {cc : ByteArray} {ls : Array Slot} {D : va_G} {aC : Nat → ClassId} {ρ : Nat → Nat → Nat → Nat} {pc nL own : Nat} {hs : List PS} {A : Nat → Prop} {H0 : Heap}
theorem w_callv {Q' : Option AV → List PS → Prop} {x i k d mc ms cR jR : Nat} {As : List AV} {rest : List Value}
    (hx : p.tables.exec = Jvm.exec) (hb : c.code = cc) (hml : c.maxLocals = nL) (hown : s.vm.findClass (rn own) = some m.cls) (hts : ∀ w ∈ GW, w.before args s = true) (hKK : KK D aC s) (hwf : wf hs) (hR : RelH D aC ρ hs H) (hS : va_S A H0 H locs) (hA : ∀ q, zA ρ hs H.size q → A q) (hsz : ls.size = nL)
    (hdec : decode cc pc = .ok (.invokevirtual x, 3))
    (hct : (Cond.methodLink (rn own) x (mt i).2.2.1 ∈ GW) ∨ ∃ host, Cond.methodLinkNest (rn own) x (mt i).2.2.1 (rn host) ∈ NW)
    (hmb : mB i k) (hin : Cond.instanceMethod (mt i).2.2.1 ∈ GW) (hsel : Cond.selects (mt i).2.2.1.cls (mt i).2.2.1 (mt i).2.2.1 ∈ GW) (hcR : (mt i).2.2.2.2.2.2 = cR)
    (hlen : As.length = k) (hvr : vc hs cR jR 0) (hav : ∀ v ∈ As, vv hs v) (hcat : (rest.map fun v => v.category).sum ≤ 8)
    (hfr : d + 2 ≤ R.frames) (hlo : 64 * (d + 2) ≤ R.locals) (hcs : cells + mc ≤ R.cells ∧ slots + ms ≤ R.slots)
    (h : TriM (mt i) d mc ms (vR cR jR 0 :: As) hs Q')
    (kk : ∀ (r : Option AV) (hs' : List PS) (ρ' : Nat → Nat → Nat → Nat) (H1 : Heap) (locs1 : List Loc), Q' r hs' → RelH D aC ρ' hs' H1 → wf hs' → (∀ v, r = some v → vv hs' v) → ext ρ hs ρ' hs' H.size → H.size ≤ H1.size → (∀ q : Nat, q < H.size → ¬ zA ρ hs H.size q → H1[q]? = H[q]?) → va_S A H0 H1 locs1 → W p l e R s m args below meth c H1 locs1 (cells + mc) (slots + ms) Q (F0 m (pc + 3) ls ((r.map (zc ρ')).toList ++ rest))) :
    W p l e R s m args below meth c H locs cells slots Q (F0 m pc ls ((As.map (zc ρ)).reverse ++ .ref (ρ cR jR 0) :: rest)) := by
  have hM' := h l D aC ρ H.size hwf (fun v hv => by
    rcases List.mem_cons.mp hv with g | g
    · rw [g]; exact hvr
    · exact hav v g)
  have hcl := (clF hvr.1).1
  have hname : (mt i).2.2.1.cls = rn cR := by rw [hmb.2.2.2.1, hcR]
  have hroom : (rmd d mc ms).frames + 1 ≤ R.frames ∧ 8 + ((mt i).2.2.2.2.1 + 11) + (rmd d mc ms).locals ≤ R.locals := by
    have := hmb.2.2.1
    show d + 1 + 1 ≤ R.frames ∧ 8 + ((mt i).2.2.2.2.1 + 11) + 64 * (d + 1) ≤ R.locals
    omega
  have hpre : PreV s H (rn cR) (ρ cR jR 0) (zPc D aC ρ hs H.size (vR cR jR 0 :: As)) (As.map (zc ρ)) :=
    ⟨blind_zPc, va_recv hKK.1 (va_P1 (hR.1 cR jR 0 _ hvr rfl)) (ci := cR) (q0 := 0) hcl rfl, fun U hU hW => ⟨rfl, by rw [hU], by rw [hU]; exact hR, KK_moved hKK hW⟩⟩
  have hgo : va_Run p l e R s m args below meth c H locs cells slots mc ms (F0 m pc ls ((As.map (zc ρ)).reverse ++ .ref (ρ cR jR 0) :: rest)) rest (zQ D aC ρ hs H.size Q' (Value.ref (ρ cR jR 0) :: As.map (zc ρ)).toArray) (zA ρ hs H.size) := by
    have hW : 2 * (F0 m pc ls ((As.map (zc ρ)).reverse ++ .ref (ρ cR jR 0) :: rest)).monitorRoom + (rest.map fun v => v.category).sum ≤ 8 := by
      show 2 * 0 + _ ≤ 8; omega
    rcases hct with hlink | ⟨host, hlink⟩
    · refine va_runV ⟨hx, hb, hml, hown, hts⟩ hM' (cwV (Ts := GW) (C := rn cR) k hts ?_ rfl rfl rfl ⟨hname, hmb.2.2.2.2.1⟩ hroom) hpre rfl (by simp [hlen]) hsz rfl hW hdec hcs
      intro w hw
      rcases List.mem_append.mp hw with hw | hw
      · have hw' : w = .methodLink (rn own) x (mt i).2.2.1 ∨ w = .instanceMethod (mt i).2.2.1 ∨ w = .selects (rn cR) (mt i).2.2.1 (mt i).2.2.1 ∨ w = .initialized (rn cR) := by simpa using hw
        have : w ∈ GW := by
          rcases hw' with rfl | rfl | rfl | rfl
          · exact hlink
          · exact hin
          · rw [← hname]; exact hsel
          · rw [← hname]; exact hmb.2.1
        exact ⟨this, gw_good this⟩
      · exact gi_WS hmb w hw
    · exact va_runVN (host := rn host) ⟨hx, hb, hml, hown, hts⟩ hM' ⟨va_cnB k hts (gi_WS hmb) rfl rfl rfl (hKK.2 _ hlink) (hts _ hmb.2.1) hmb.2.2.2.2.1 hroom, hts _ hin, by rw [← hname]; exact hts _ hsel⟩ hpre rfl (by simp [hlen]) hsz rfl hW hdec hcs
  intro T hT X
  obtain ⟨v, st₀, t, T', L, h0, X', hL, e1, e2, ⟨r, hs', ρ', ho, hq, hR', hwf', hv', hext', hF⟩, stp⟩ := hgo T hT X
  cases ho
  obtain ⟨t2, a1, b1⟩ := kk r hs' ρ' T'.heap (locs ++ L) hq (by rw [e1]; exact hR') hwf' hv' hext' (by rw [e1, ← h0]; exact hF.1) (fun q h1 h2 => by rw [e1, hF.2 q (by rw [h0]; exact h1) h2, h0])
    ⟨Nat.le_trans hS.1 (by rw [e1, ← h0]; exact hF.1), fun q h1 h2 => by
      rw [e1, hF.2 q (by rw [h0]; exact Nat.lt_of_lt_of_le h1 hS.1) (fun zq => h2 (hA q zq)), h0]
      exact hS.2.1 q h1 h2, fun q hq => by
      rcases List.mem_append.mp hq with h | h
      · exact hS.2.2 q h
      · exact hA _ (hL q h)⟩ T' rfl X'
  exact ⟨t2, stp t2 a1, b1⟩
end WC
