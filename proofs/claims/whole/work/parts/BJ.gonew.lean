/-! ===== an object more, and calls that make objects, inside a method's run ===== -/
theorem cat_sum (ρ : Nat → Nat → Nat → Nat) : ∀ rest : List AV, ((rest.map (zc ρ)).map fun v => v.category).sum = catS rest
  | [] => rfl
  | v :: t => by
    rw [List.map_cons, List.map_cons, List.sum_cons, cat_sum ρ t, cat_zc]
    rfl
theorem Go_new {M Mi : MI} {z : Nat × Nat × Nat × Nat} {d d' pc idx ix mc ms : Nat} {lv : List (Nat × AV)} {hs : List PS} {Q : Option AV → List PS → Prop} {QI : List PS → Prop}
    (hd1 : decode M.2.2.2.1 pc = .ok (.new idx, 3)) (hd2 : decode M.2.2.2.1 (pc + 3) = .ok (.dup, 1)) (hd3 : decode M.2.2.2.1 (pc + 4) = .ok (.invokespecial ix, 3)) (hcl : Cond.classLink (rn M.2.2.2.2.2.2) idx (rn 3) ∈ GW)
    (hct : (Cond.methodLink (rn M.2.2.2.2.2.2) ix Mi.2.2.1 ∈ GW) ∨ ∃ host, Cond.methodLinkNest (rn M.2.2.2.2.2.2) ix Mi.2.2.1 (rn host) ∈ NW) (hI : iB Mi 3) (hd : d' + 1 ≤ d) (hcs : z.1 + 1 + mc ≤ z.2.2.1) (hss : z.2.1 + nf 3 + ms ≤ z.2.2.2) (hT : wf hs → TriI Mi 3 d' mc ms hs QI) (hn : ∀ hs', wf hs' → QI hs' → cn hs 3 < cn hs' 3)
    (hK : ∀ hs', QI hs' → Go M (z.1 + 1 + mc, z.2.1 + nf 3 + ms, z.2.2) d (pc + 7) lv [vR 3 (cn hs 3) 0] hs' Q) : Go M z d pc lv [] hs Q := by
  intro p l e s m args below meth c H locs ls D aC ρ0 hs0 ρ sz hC hz hwf hlv hst hR hl hext hS
  obtain ⟨hx, hb, hml, hown, hts, hKK, hret, hlk, hsz⟩ := id hC
  have hle : sz ≤ H.size := hsz ▸ hS.1
  refine w_new (own := M.2.2.2.2.2.2) (c := 3) (M := Mi) (d := d') (A := zA ρ0 hs0 sz) (rest := []) hx hb hml hown hts hKK (fun g => absurd rfl g) hR hS (fun q hq => zA_sub hext hle hq) hl.1 hd1 hd2 hd3 hcl hct hI (by show 0 ≤ 7; omega) (by show d' + 2 ≤ d + 1; omega) (by show 64 * (d' + 2) ≤ 64 * (d + 1); omega) hcs hss (hT hwf) (fun hs' ρ' H1 locs1 q1 w1 r1 e1 z1 k1 s1 => ?_)
  have hlv' : (lv.map fun q => (q.1, zc ρ' q.2)) = lv.map fun q => (q.1, zc ρ q.2) := List.map_congr_left fun q hq => by rw [zc_ext e1 (hlv q hq)]
  exact hK hs' q1 p l e s m args below meth c H1 locs1 ls D aC ρ0 hs0 ρ' sz hC ⟨hcs, hss⟩ w1 (fun q hq => vv_le e1.1 (hlv q hq)) (fun v hv => by
    rw [List.mem_singleton.mp hv]
    exact ⟨by decide, hn hs' w1 q1⟩) r1 (by rw [hlv']; exact hl) (ext_trans hext e1 hle) s1
theorem Go_callv {M : MI} {z : Nat × Nat × Nat × Nat} {d pc x i n mc ms cR jR : Nat} {lv : List (Nat × AV)} {As rest : List AV} {hs : List PS} {Q Q' : Option AV → List PS → Prop}
    (hdec : decode M.2.2.2.1 pc = .ok (.invokevirtual x, 3)) (hct : inCT M.2.2.2.2.2.2 x i = true) (hmv : inMV i n = true) (hcR : (mt i).2.2.2.2.2.2 = cR) (hlen : As.length + 1 = n) (hcat : catS rest ≤ 8) (hcs : z.1 + mc ≤ z.2.2.1 ∧ z.2.1 + ms ≤ z.2.2.2)
    (h : wf hs → TriM (mt i) d mc ms (vR cR jR 0 :: As) hs Q') (hK : ∀ r h, Q' r h → Go M (z.1 + mc, z.2.1 + ms, z.2.2) (d + 1) (pc + 3) lv (r.toList ++ rest) h Q) : Go M z (d + 1) pc lv (As.reverse ++ vR cR jR 0 :: rest) hs Q := by
  intro p l e s m args below meth c H locs ls D aC ρ0 hs0 ρ sz hC hz hwf hlv hst hR hl hext hS
  obtain ⟨hx, hb, hml, hown, hts, hKK, hret, hlk, hsz⟩ := id hC
  obtain ⟨k, hk, hmb, hin, hsel, h13⟩ := any_MV hmv
  have hle : sz ≤ H.size := hsz ▸ hS.1
  have hvr : vc hs cR jR 0 := hst (vR cR jR 0) (List.mem_append.mpr (Or.inr (List.mem_cons_self ..)))
  have hrest : ∀ v ∈ rest, vv hs v := fun v hv => hst v (List.mem_append.mpr (Or.inr (List.mem_cons_of_mem _ hv)))
  have key := w_callv (p := p) (l := l) (e := e) (below := below) (meth := meth) (cells := z.1) (slots := z.2.1) (R := rmd (d + 1) z.2.2.1 z.2.2.2) (Q := MQ below (zQ D aC ρ0 hs0 sz Q) args s z.2.2.1 z.2.2.2 (zA ρ0 hs0 sz)) (As := As) (rest := rest.map (zc ρ)) hx hb hml hown hts hKK hwf hR hS (fun q hq => zA_sub hext hle hq) hl.1 hdec (any_CT hct) hmb hin hsel hcR (by omega) hvr (fun v hv => hst v (List.mem_append.mpr (Or.inl (List.mem_reverse.mpr hv)))) (by rw [cat_sum]; exact hcat) (by show d + 2 ≤ d + 1 + 1; omega) (by show 64 * (d + 2) ≤ 64 * (d + 1 + 1); omega) hcs (h hwf) (fun r hs' ρ' H1 locs1 q1 r1 w1 v1 e1 z1 k1 s1 => by
    have hlv' : (lv.map fun q => (q.1, zc ρ' q.2)) = lv.map fun q => (q.1, zc ρ q.2) := List.map_congr_left fun q hq => by rw [zc_ext e1 (hlv q hq)]
    have hst' : rest.map (zc ρ') = rest.map (zc ρ) := List.map_congr_left fun v hv => zc_ext e1 (hrest v hv)
    have this : (Option.map (zc ρ') r).toList ++ List.map (zc ρ) rest = List.map (zc ρ') (r.toList ++ rest) := by
      rw [List.map_append, hst']; cases r <;> rfl
    rw [this]
    exact hK r hs' q1 p l e s m args below meth c H1 locs1 ls D aC ρ0 hs0 ρ' sz hC hcs w1 (fun q hq => vv_le e1.1 (hlv q hq)) (fun w hw => by
      rcases List.mem_append.mp hw with hw | hw
      · cases r with
        | none => cases hw
        | some x => rw [List.mem_singleton.mp hw]; exact v1 x rfl
      · exact vv_le e1.1 (hrest w hw)) r1 (by rw [hlv']; exact hl) (ext_trans hext e1 hle) s1)
  have e : List.map (zc ρ) (As.reverse ++ vR cR jR 0 :: rest) = (As.map (zc ρ)).reverse ++ .ref (ρ cR jR 0) :: rest.map (zc ρ) := by
    rw [List.map_append, List.map_reverse]; rfl
  rw [e]
  exact key
