/-! ===== switches and calls ===== -/
theorem swK_out {x : Int32} {k : Nat → Prop} {df : Nat} : ∀ {sw : List (Int32 × Nat)}, swK x k df sw → (∀ v t, (v, t) ∈ sw → x ≠ v) → k df
  | [], h, _ => h
  | (v, t) :: r, h, hn => swK_out (sw := r) (h.2 (hn v t List.mem_cons_self)) (fun v' t' hm => hn v' t' (List.mem_cons_of_mem _ hm))
theorem ckTS_ge {pc : Nat} : ∀ {lo : Int} {os : List Int} {sw : List (Int32 × Nat)}, ckTS pc lo os sw = true → ∀ v t, (v, t) ∈ sw → lo ≤ v.toInt
  | lo, [], [], _, v, t, hm => by cases hm
  | lo, o :: os, (w, u) :: r, h, v, t, hm => by
    obtain ⟨h1, h2⟩ := ck2 h
    obtain ⟨h1, -⟩ := ck2 h1
    have h1 := of_decide_eq_true h1
    rcases List.mem_cons.mp hm with e | hm
    · cases e; omega
    · have := ckTS_ge h2 v t hm; omega
theorem ckTS_lt {pc : Nat} : ∀ {lo : Int} {os : List Int} {sw : List (Int32 × Nat)}, ckTS pc lo os sw = true → ∀ v t, (v, t) ∈ sw → v.toInt < lo + os.length
  | lo, [], [], _, v, t, hm => by cases hm
  | lo, o :: os, (w, u) :: r, h, v, t, hm => by
    obtain ⟨h1, h2⟩ := ck2 h
    obtain ⟨h1, -⟩ := ck2 h1
    have h1 := of_decide_eq_true h1
    rcases List.mem_cons.mp hm with e | hm
    · cases e; simp only [List.length_cons]; omega
    · have := ckTS_lt h2 v t hm; simp only [List.length_cons]; omega
theorem ckTS_at {pc : Nat} {x : Int32} {k : Nat → Prop} {df : Nat} : ∀ {lo : Int} {os : List Int} {sw : List (Int32 × Nat)}, ckTS pc lo os sw = true → swK x k df sw → lo ≤ x.toInt → x.toInt < lo + os.length → ∃ (o : Int) (t : Nat), os[(x.toInt - lo).toNat]? = some o ∧ (pc : Int) + o = (t : Int) ∧ k t
  | lo, [], [], _, _, h1, h2 => by simp at h2; omega
  | lo, o :: os, (w, u) :: r, h, hs, h1, h2 => by
    obtain ⟨g1, g2⟩ := ck2 h
    obtain ⟨g1, g3⟩ := ck2 g1
    have g1 := of_decide_eq_true g1; have g3 := of_decide_eq_true g3
    by_cases e : x = w
    · exact ⟨o, u, by rw [e, g1]; simp, g3, hs.1 e⟩
    · have hne : x.toInt ≠ lo := fun q => e (Int32.toInt_inj.mp (q.trans g1.symm))
      simp only [List.length_cons] at h2
      obtain ⟨o', t, a1, a2, a3⟩ := ckTS_at g2 (hs.2 e) (by omega) (by omega)
      refine ⟨o', t, ?_, a2, a3⟩
      have : (x.toInt - lo).toNat = (x.toInt - (lo + 1)).toNat + 1 := by omega
      rw [this]
      exact a1
theorem ckLS_at {pc : Nat} {x : Int32} {k : Nat → Prop} {df : Nat} {dfo : Int} : ∀ {ps : List (Int × Int)} {sw : List (Int32 × Nat)}, ckLS pc ps sw = true → (pc : Int) + dfo = (df : Int) → swK x k df sw → ∃ t : Nat, (pc : Int) + Op.lookupswitch.offset ps dfo x.toInt = (t : Int) ∧ k t
  | [], [], _, hd, h => ⟨df, hd, h⟩
  | (q, o) :: ps, (w, u) :: r, hck, hd, h => by
    obtain ⟨g1, g2⟩ := ck2 hck
    obtain ⟨g1, g3⟩ := ck2 g1
    have g1 := of_decide_eq_true g1; have g3 := of_decide_eq_true g3
    rw [Op.lookupswitch.offset_cons]
    by_cases e : x = w
    · rw [if_pos (by rw [e, g1])]
      exact ⟨u, g3, h.1 e⟩
    · rw [if_neg (fun z => e (Int32.toInt_inj.mp (z.symm.trans g1.symm)))]
      exact ckLS_at g2 hd (h.2 e)
theorem KK_moved {D : va_G} {aC : Nat → ClassId} {u U : State} (h : KK D aC u) (hW : u.WarmedH U.vm) : KK D aC U := by
  refine ⟨va_K.moved hW.alike h.1, fun w hw => ?_⟩
  have hn := (List.mem_filter.mp hw).2
  have hz := h.2 w hw
  cases w with
  | methodLinkNest a i x b => exact va_Nw.warmM hW hz
  | _ => cases hn
theorem blind_zPc {D : va_G} {aC : Nat → ClassId} {ρ : Nat → Nat → Nat → Nat} {hs : List PS} {sz : Nat} {av : List AV} : FrameBlind (zPc D aC ρ hs sz av) := by
  intro a U g mk h
  obtain ⟨h1, h2, h3, h4, h5⟩ := h
  refine ⟨h1, h2, h3, va_K.moved (u := U) (U := U.calling g mk a) (Vm.Alike.refl U.vm) h4, fun w hw => ?_⟩
  have hn := (List.mem_filter.mp hw).2
  have hz := h5 w hw
  cases w with
  | methodLinkNest q i x b => exact va_Nw.same rfl rfl hz
  | _ => cases hn
theorem gi_WS {i n : Nat} (h : mB i n) : GoodIn GW (WS (mt i)) := by
  intro w hw
  rcases List.mem_cons.mp hw with rfl | hw
  · exact ⟨h.1, gw_good h.1⟩
  · exact ⟨hw, gw_good hw⟩
section CALLS
variable {p : Program} {l : Launch} {e : Env} {s : State} {m : MethodId} {args : Array Value} {below : List Frame} {meth : Method} {c : Code} {H : Heap} {locs : List Loc} {ls : Array Slot} {D : va_G} {aC : Nat → ClassId} {ρ0 : Nat → Nat → Nat → Nat} {hs0 : List PS} {ρ : Nat → Nat → Nat → Nat} {sz : Nat} {M : MI} {z : Nat × Nat × Nat × Nat} {d : Nat} {pc : Nat} {lv : List (Nat × AV)} {st : List AV} {hs : List PS} {Q : Option AV → List PS → Prop}
/-- behind a call -/
theorem call_on {Q' : Option AV → List PS → Prop} {rest : List AV} {d' nx : Nat} {st0 : List Value} {a : Array Value} (hC : Cx p s m args meth c M D aC sz) (hz : z.1 ≤ z.2.2.1 ∧ z.2.1 ≤ z.2.2.2) (hlv : ∀ q ∈ lv, vv hs q.2) (hrest : ∀ v ∈ rest, vv hs v) (hl : lv_has ls M.2.2.2.2.1 (lv.map fun q => (q.1, zc ρ q.2))) (hext : ext ρ0 hs0 ρ hs sz) (hS : va_S (zA ρ0 hs0 sz) s.heap H locs) (hnx : nx = pc + 3)
    (hr : va_Run p l e (rmd d' z.2.2.1 z.2.2.2) s m args below meth c H locs z.1 z.2.1 0 0 (F0 m pc ls st0) (rest.map (zc ρ)) (zQ D aC ρ hs H.size Q' a) (zA ρ hs H.size))
    (hK : ∀ r h, Q' r h → Go M z d' nx lv (r.toList ++ rest) h Q) :
    W p l e (rmd d' z.2.2.1 z.2.2.2) s m args below meth c H locs z.1 z.2.1 (MQ below (zQ D aC ρ0 hs0 sz Q) args s z.2.2.1 z.2.2.2 (zA ρ0 hs0 sz)) (F0 m pc ls st0) := by
  subst hnx
  intro T hT X
  obtain ⟨v, st₀, t, T', L, h0, X', hL, e1, e2, ⟨r, hs', ρ', ho, hq, hR', hwf', hv', hext', hF⟩, stp⟩ := hr T hT X
  cases ho
  have hsz : s.heap.size = sz := hC.2.2.2.2.2.2.2.2
  have hle : sz ≤ H.size := hsz ▸ hS.1
  have hlv' : (lv.map fun q => (q.1, zc ρ' q.2)) = lv.map fun q => (q.1, zc ρ q.2) := List.map_congr_left fun q hq => by rw [zc_ext hext' (hlv q hq)]
  have hst' : rest.map (zc ρ') = rest.map (zc ρ) := List.map_congr_left fun v hv => zc_ext hext' (hrest v hv)
  have key := hK r hs' hq p l e s m args below meth c T'.heap (locs ++ L) ls D aC ρ0 hs0 ρ' sz hC hz hwf' (fun q hq => vv_le hext'.1 (hlv q hq)) (fun w hw => by
      rcases List.mem_append.mp hw with hw | hw
      · cases r with
        | none => cases hw
        | some x => rw [List.mem_singleton.mp hw]; exact hv' x rfl
      · exact vv_le hext'.1 (hrest w hw)) (by rw [e1]; exact hR') (by rw [hlv']; exact hl) (ext_trans hext hext' hle)
    ⟨Nat.le_trans hS.1 (by rw [e1, ← h0]; exact hF.1), fun q h1 h2 => by
      rw [e1, hF.2 q (by rw [h0]; exact Nat.lt_of_lt_of_le h1 hS.1) (fun zq => h2 (zA_sub hext hle zq)), h0]
      exact hS.2.1 q h1 h2, fun q hq => by
      rcases List.mem_append.mp hq with h | h
      · exact hS.2.2 q h
      · exact zA_sub hext hle (hL q h)⟩
  obtain ⟨t2, a1, b1⟩ := key T' rfl X'
  refine ⟨t2, stp t2 ?_, b1⟩
  have : (Option.map (zc ρ') r).toList ++ List.map (zc ρ) rest = List.map (zc ρ') (r.toList ++ rest) := by
    rw [List.map_append, hst']; cases r <;> rfl
  rw [this]
  exact a1
theorem room_ok {d mc ms maxL : Nat} (h : maxL ≤ 45) : (rmd d 0 0).frames + 1 ≤ (rmd (d + 1) mc ms).frames ∧ 8 + (maxL + 11) + (rmd d 0 0).locals ≤ (rmd (d + 1) mc ms).locals := by
  show d + 1 + 1 ≤ d + 1 + 1 ∧ 8 + (maxL + 11) + 64 * (d + 1) ≤ 64 * (d + 1 + 1)
  omega
theorem call_v {Q' : Option AV → List PS → Prop} {x i n : Nat} (hC : Cx p s m args meth c M D aC sz) (hz : z.1 ≤ z.2.2.1 ∧ z.2.1 ≤ z.2.2.2) (hwf : wf hs) (hlv : ∀ q ∈ lv, vv hs q.2) (hst : ∀ v ∈ st, vv hs v) (hR : RelH D aC ρ hs H) (hl : lv_has ls M.2.2.2.2.1 (lv.map fun q => (q.1, zc ρ q.2))) (hext : ext ρ0 hs0 ρ hs sz) (hS : va_S (zA ρ0 hs0 sz) s.heap H locs) (hdec : decode M.2.2.2.1 pc = .ok (.invokevirtual x, 3))
    (hct : (Cond.methodLink (rn M.2.2.2.2.2.2) x (mt i).2.2.1 ∈ GW) ∨ ∃ host, Cond.methodLinkNest (rn M.2.2.2.2.2.2) x (mt i).2.2.1 (rn host) ∈ NW) (hmv : ∃ k, n = k + 1 ∧ mB i k ∧ Cond.instanceMethod (mt i).2.2.1 ∈ GW ∧ Cond.selects (mt i).2.2.1.cls (mt i).2.2.1 (mt i).2.2.1 ∈ GW ∧ (mt i).2.2.2.2.2.2 < 13) (hle : n ≤ st.length) (hcat : catS (st.drop n) ≤ 8) (hrc : recv (mt i).2.2.2.2.2.2 (st.take n).reverse = true)
    (h : Tri i d (st.take n).reverse hs Q') (hK : ∀ r h, Q' r h → Go M z (d + 1) (pc + 3) lv (r.toList ++ st.drop n) h Q) :
    W p l e (rmd (d + 1) z.2.2.1 z.2.2.2) s m args below meth c H locs z.1 z.2.1 (MQ below (zQ D aC ρ0 hs0 sz Q) args s z.2.2.1 z.2.2.2 (zA ρ0 hs0 sz)) (F0 m pc ls (st.map (zc ρ))) := by
  obtain ⟨k, rfl, hmb, hin, hsel, h13⟩ := hmv
  obtain ⟨hx, hb, hml, hown, hts, hKK, hret, hlk, hsz⟩ := id hC
  have hav : ∀ v ∈ (st.take (k + 1)).reverse, vv hs v := fun v hv => hst v (List.mem_of_mem_take (List.mem_reverse.mp hv))
  have hM' := h l D aC ρ H.size hwf hav
  have hlen : (st.take (k + 1)).reverse.length = k + 1 := by rw [List.length_reverse, List.length_take]; omega
  have hsplit : st = (st.take (k + 1)).reverse.reverse ++ st.drop (k + 1) := by rw [List.reverse_reverse, List.take_append_drop]
  generalize hA : (st.take (k + 1)).reverse = av at *
  match av, hrc, hlen with
  | .inr (.inr (some (c', j, 0))) :: As, hrc, hlen =>
    have hcc : (mt i).2.2.2.2.2.2 = c' := Nat.eq_of_beq_eq_true hrc
    have hvr : vc hs c' j 0 := hav _ List.mem_cons_self
    have hlen : As.length = k := by simpa using hlen
    have hstack : st.map (zc ρ) = (As.map (zc ρ)).reverse ++ .ref (ρ c' j 0) :: (st.drop (k + 1)).map (zc ρ) := by
      conv => lhs; rw [hsplit]
      rw [List.reverse_cons, List.append_assoc, List.map_append, ← List.map_reverse]
      rfl
    have hcl := (clF hvr.1).1
    have hname : (mt i).2.2.1.cls = rn c' := by rw [hmb.2.2.2.1, hcc]
    have hpre : PreV s H (rn c') (ρ c' j 0) (zPc D aC ρ hs H.size (.inr (.inr (some (c', j, 0))) :: As)) (As.map (zc ρ)) :=
      ⟨blind_zPc, va_recv hKK.1 (va_P1 (hR.1 c' j 0 _ hvr rfl)) (ci := c') (q0 := 0) hcl rfl, fun U hU hW => ⟨rfl, by rw [hU], by rw [hU]; exact hR, KK_moved hKK hW⟩⟩
    have hgo : va_Run p l e (rmd (d + 1) z.2.2.1 z.2.2.2) s m args below meth c H locs z.1 z.2.1 0 0 (F0 m pc ls (st.map (zc ρ))) ((st.drop (k + 1)).map (zc ρ)) (zQ D aC ρ hs H.size Q' (Value.ref (ρ c' j 0) :: As.map (zc ρ)).toArray) (zA ρ hs H.size) := by
      have hW : 2 * (F0 m pc ls (st.map (zc ρ))).monitorRoom + (((st.drop (k + 1)).map (zc ρ)).map fun v => v.category).sum ≤ 8 := by
        rw [catS_sum]; show 2 * 0 + _ ≤ 8; omega
      rcases hct with hlink | ⟨host, hlink⟩
      · refine va_runV ⟨hx, hb, hml, hown, hts⟩ hM' (cwV (Ts := GW) (C := rn c') k hts ?_ rfl rfl rfl ⟨hname, hmb.2.2.2.2.1⟩ (room_ok hmb.2.2.1)) hpre rfl (by simp [hlen]) hl.1 hstack hW hdec ⟨hz.1, hz.2⟩
        intro w hw
        rcases List.mem_append.mp hw with hw | hw
        · have hw' : w = .methodLink (rn M.2.2.2.2.2.2) x (mt i).2.2.1 ∨ w = .instanceMethod (mt i).2.2.1 ∨ w = .selects (rn c') (mt i).2.2.1 (mt i).2.2.1 ∨ w = .initialized (rn c') := by simpa using hw
          have : w ∈ GW := by
            rcases hw' with rfl | rfl | rfl | rfl
            · exact hlink
            · exact hin
            · rw [← hname]; exact hsel
            · rw [← hname]; exact hmb.2.1
          exact ⟨this, gw_good this⟩
        · exact gi_WS hmb w hw
      · exact va_runVN (C := rn c') (host := rn host) ⟨hx, hb, hml, hown, hts⟩ hM' ⟨va_cnB k hts (gi_WS hmb) rfl rfl rfl (hKK.2 _ hlink) (hts _ hmb.2.1) hmb.2.2.2.2.1 (room_ok hmb.2.2.1), hts _ hin, by rw [← hname]; exact hts _ hsel⟩ hpre rfl (by simp [hlen]) hl.1 hstack hW hdec ⟨hz.1, hz.2⟩
    exact call_on hC hz hlv (fun v hv => hst v (List.mem_of_mem_drop hv)) hl hext hS rfl hgo hK
theorem call_s {Q' : Option AV → List PS → Prop} {x i n : Nat} (hC : Cx p s m args meth c M D aC sz) (hz : z.1 ≤ z.2.2.1 ∧ z.2.1 ≤ z.2.2.2) (hwf : wf hs) (hlv : ∀ q ∈ lv, vv hs q.2) (hst : ∀ v ∈ st, vv hs v) (hR : RelH D aC ρ hs H) (hl : lv_has ls M.2.2.2.2.1 (lv.map fun q => (q.1, zc ρ q.2))) (hext : ext ρ0 hs0 ρ hs sz) (hS : va_S (zA ρ0 hs0 sz) s.heap H locs) (hdec : decode M.2.2.2.1 pc = .ok (.invokestatic x, 3))
    (hct : (Cond.methodLink (rn M.2.2.2.2.2.2) x (mt i).2.2.1 ∈ GW) ∨ ∃ host, Cond.methodLinkNest (rn M.2.2.2.2.2.2) x (mt i).2.2.1 (rn host) ∈ NW) (hms : mB i n ∧ Cond.static (mt i).2.2.1 ∈ GW) (hle : n ≤ st.length) (hcat : catS (st.drop n) ≤ 8)
    (h : Tri i d (st.take n).reverse hs Q') (hK : ∀ r h, Q' r h → Go M z (d + 1) (pc + 3) lv (r.toList ++ st.drop n) h Q) :
    W p l e (rmd (d + 1) z.2.2.1 z.2.2.2) s m args below meth c H locs z.1 z.2.1 (MQ below (zQ D aC ρ0 hs0 sz Q) args s z.2.2.1 z.2.2.2 (zA ρ0 hs0 sz)) (F0 m pc ls (st.map (zc ρ))) := by
  obtain ⟨hmb, hstat⟩ := hms
  obtain ⟨hx, hb, hml, hown, hts, hKK, hret, hlk, hsz⟩ := id hC
  have hav : ∀ v ∈ (st.take n).reverse, vv hs v := fun v hv => hst v (List.mem_of_mem_take (List.mem_reverse.mp hv))
  have hM' := h l D aC ρ H.size hwf hav
  have hlen : (st.take n).reverse.length = n := by rw [List.length_reverse, List.length_take]; omega
  have hsplit : st = (st.take n).reverse.reverse ++ st.drop n := by rw [List.reverse_reverse, List.take_append_drop]
  generalize hA : (st.take n).reverse = av at *
  have hstack : st.map (zc ρ) = (av.map (zc ρ)).reverse ++ (st.drop n).map (zc ρ) := by
    conv => lhs; rw [hsplit]
    rw [List.map_append, ← List.map_reverse]
  have hpre : PreS s H (zPc D aC ρ hs H.size av) (av.map (zc ρ)) := ⟨blind_zPc, fun U hU hW => ⟨rfl, by rw [hU], by rw [hU]; exact hR, KK_moved hKK hW⟩⟩
  have hgo : va_Run p l e (rmd (d + 1) z.2.2.1 z.2.2.2) s m args below meth c H locs z.1 z.2.1 0 0 (F0 m pc ls (st.map (zc ρ))) ((st.drop n).map (zc ρ)) (zQ D aC ρ hs H.size Q' (av.map (zc ρ)).toArray) (zA ρ hs H.size) := by
    have hW : 2 * (F0 m pc ls (st.map (zc ρ))).monitorRoom + (((st.drop n).map (zc ρ)).map fun v => v.category).sum ≤ 8 := by
      rw [catS_sum]; show 2 * 0 + _ ≤ 8; omega
    rcases hct with hlink | ⟨host, hlink⟩
    · exact va_runS ⟨hx, hb, hml, hown, hts⟩ hM' ⟨callB_of n hts (gi_WS hmb) rfl rfl rfl (hts _ hmb.2.1) (hts _ hlink) hmb.2.2.2.2.1 (room_ok hmb.2.2.1), hts _ hstat⟩ hpre rfl (by simp [hlen]) hl.1 hstack hW hdec ⟨hz.1, hz.2⟩
    · exact va_runSN (host := rn host) ⟨hx, hb, hml, hown, hts⟩ hM' ⟨va_cnB n hts (gi_WS hmb) rfl rfl rfl (hKK.2 _ hlink) (hts _ hmb.2.1) hmb.2.2.2.2.1 (room_ok hmb.2.2.1), hts _ hstat, trivial⟩ hpre rfl (by simp [hlen]) hl.1 hstack hW hdec ⟨hz.1, hz.2⟩
  exact call_on hC hz hlv (fun v hv => hst v (List.mem_of_mem_drop hv)) hl hext hS rfl hgo hK
theorem spN_1 : spN 9001 = Lib.Math.max.name := rfl
theorem call_sp {x i : Nat} {f : List AV → List PS → Prop} (hC : Cx p s m args meth c M D aC sz) (hz : z.1 ≤ z.2.2.1 ∧ z.2.1 ≤ z.2.2.2) (hwf : wf hs) (hlv : ∀ q ∈ lv, vv hs q.2) (hst : ∀ v ∈ st, vv hs v) (hR : RelH D aC ρ hs H) (hl : lv_has ls M.2.2.2.2.1 (lv.map fun q => (q.1, zc ρ q.2))) (hext : ext ρ0 hs0 ρ hs sz) (hS : va_S (zA ρ0 hs0 sz) s.heap H locs) (hdec : decode M.2.2.2.1 pc = .ok (.invokestatic x, 3))
    (hlink : Cond.methodLink (rn M.2.2.2.2.2.2) x (spN i) ∈ GW) (h : spK i st hs f) (hK : ∀ s' h', f s' h' → Go M z d (pc + 3) lv s' h' Q) (hcat : ∀ s' h', f s' h' → catS s' ≤ 8) :
    W p l e (rmd d z.2.2.1 z.2.2.2) s m args below meth c H locs z.1 z.2.1 (MQ below (zQ D aC ρ0 hs0 sz Q) args s z.2.2.1 z.2.2.2 (zA ρ0 hs0 sz)) (F0 m pc ls (st.map (zc ρ))) := by
  obtain ⟨hx, hb, hml, hown, hts, hKK, hret, hlk, hsz⟩ := id hC
  have go : ∀ st', f st' hs → (∀ v ∈ st', vv hs v) → W p l e (rmd d z.2.2.1 z.2.2.2) s m args below meth c H locs z.1 z.2.1 (MQ below (zQ D aC ρ0 hs0 sz Q) args s z.2.2.1 z.2.2.2 (zA ρ0 hs0 sz)) (F0 m (pc + 3) ls (st'.map (zc ρ))) :=
    fun st' hk hv => hK _ _ hk p l e s m args below meth c H locs ls D aC ρ0 hs0 ρ sz hC hz hwf hlv hv hR hl hext hS
  have hf1 : 1 ≤ (rmd d z.2.2.1 z.2.2.2).frames := Nat.le_add_left 1 d
  have hloc : ∀ (r : List AV) (n k : Nat), catS r ≤ n → n + k ≤ 64 → ((r.map (zc ρ)).map fun v => v.category).sum + k ≤ (rmd d z.2.2.1 z.2.2.2).locals := by
    intro r n k h1 h2
    rw [catS_sum]
    show _ ≤ 64 * (d + 1)
    omega
  have ctl : ∀ {v : AV} {r : List AV}, catS (v :: r) ≤ 8 → catS r ≤ 8 := by
    intro v r h
    simp only [catS] at h
    omega
  unfold spK at h
  split at h
  · obtain ⟨a, b, r, rfl, h⟩ := bI_of h
    exact va_mmax hx hb (hml.trans hl.1.symm) hown (hts _ hlink) (hts _ sps_9001) (hts _ sp_init) (hts _ spc_9001) hf1 (hloc r 8 13 (ctl (hcat _ _ h)) (by omega)) hz.1 hz.2 hdec (go _ h (vs_i (vs_t (vs_t hst))))
  · obtain ⟨a, b, r, rfl, h⟩ := bI_of h
    exact va_mmin hx hb (hml.trans hl.1.symm) hown (hts _ hlink) (hts _ sps_9002) (hts _ sp_init) (hts _ spc_9002) hf1 (hloc r 8 13 (ctl (hcat _ _ h)) (by omega)) hz.1 hz.2 hdec (go _ h (vs_i (vs_t (vs_t hst))))
  · obtain ⟨a, r, rfl, h⟩ := pI_of h
    exact va_mabs hx hb (hml.trans hl.1.symm) hown (hts _ hlink) (hts _ sps_9003) (hts _ sp_init) (hts _ spc_9003) hf1 (hloc r 8 13 (ctl (hcat _ _ h)) (by omega)) hz.1 hz.2 hdec (go _ h (vs_i (vs_t hst)))
  · obtain ⟨a, r, rfl, h⟩ := pL_of h
    exact va_mabs_long hx hb (hml.trans hl.1.symm) hown (hts _ hlink) (hts _ sps_9004) (hts _ sp_init) (hts _ spc_9004) hf1 (hloc r 8 13 (ctl (hcat _ _ h)) (by omega)) hz.1 hz.2 hdec (go _ h (vs_l (vs_t hst)))
  · split at h
    · rename_i n dp c1 j1 a1 sp c0 j0 a0 r
      obtain ⟨hk, h⟩ := cond_of h
      obtain ⟨hk0, hk1⟩ := ck2 hk
      obtain ⟨h1, h2, h3, h4, h5, -, h⟩ := h
      have hv1 : vc hs c1 j1 (a1 + 1) := vs_h (vs_t (vs_t hst))
      have hv0 : vc hs c0 j0 (a0 + 1) := vs_h (vs_t (vs_t (vs_t (vs_t hst))))
      have hcn := cn_set (P := sW (hp hs c1) j1 a1 (va_cpy (gA (hp hs c0) j0 a0) (gA (hp hs c1) j1 a1) sp.toNatClampNeg dp.toNatClampNeg n.toNatClampNeg)) (c := c1) (hs := hs) (by rw [hwf.1]; exact hv1.1.1) rfl
      exact z_copy hx hb (hml.trans hl.1.symm) hown (hts _ hlink) (hts _ spy_nat) (hts _ spy_stat) (hts _ spy_init) hKK hR hwf.1 hv0 hv1 (Nat.eq_of_beq_eq_true hk0) (Nat.eq_of_beq_eq_true hk1) (zA_of hext hv1) hS h1 h2 h3 h4 h5 hf1 (hloc r 8 (nativeFrameWords "java/lang/System" "arraycopy" 5 + 11) (hcat _ _ h) (by decide)) hdec
        (fun H1 l1 r1 s1 => hK _ _ h p l e s m args below meth c H1 l1 ls D aC ρ0 hs0 ρ sz hC hz (wf_same hwf hv1.1.1 rfl rfl rfl) (fun q hq => vv_cn hcn (hlv q hq)) (fun v hq => vv_cn hcn (vs_t (vs_t (vs_t (vs_t (vs_t hst)))) v hq)) r1 hl (ext_cn hext hcn) s1)
    · exact h.elim
  · exact h.elim
end CALLS
