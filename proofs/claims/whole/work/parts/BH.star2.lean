section FLD2
variable {p : Program} {l : Launch} {e : Env} {R : Room} {s : State} {m : MethodId} {args : Array Value} {below : List Frame} {meth : Method} {cd : Code} {Q : State → Prop} {ls : Array Slot} {D : va_G} {aC : Nat → ClassId} {ρ0 : Nat → Nat → Nat → Nat} {hs0 : List PS} {q0 : Nat} {P : PS}
theorem w_fld {hs : List PS} {ρ : Nat → Nat → Nat → Nat} {α : Nat → Nat} {dn : Nat → Bool} {H : Heap} {locs : List Loc} {cells slots pc a cc n idxF idxN ixI d mc ms : Nat} {M : MI} {QI : List PS → Prop} (hC : Ci p s m args meth cd mi_12 D aC) (hsz : ls.size = 2) (hl0 : ls[0]? = some (.val (.ref q0))) (hSI : SI D aC ρ0 hs0 s q0 P hs ρ α dn H locs)
    (hd0 : decode mi_12.2.2.2.1 pc = .ok (.aload_n 0, 1)) (hd1 : decode mi_12.2.2.2.1 (pc + 1) = .ok (.new idxN, 3)) (hd2 : decode mi_12.2.2.2.1 (pc + 4) = .ok (.dup, 1)) (hd3 : decode mi_12.2.2.2.1 (pc + 5) = .ok (.invokespecial ixI, 3)) (hd4 : decode mi_12.2.2.2.1 (pc + 8) = .ok (.putfield idxF, 3)) (hcl : Cond.classLink (rn 12) idxN (rn cc) ∈ GW)
    (hct : (Cond.methodLink (rn 12) ixI M.2.2.1 ∈ GW) ∨ ∃ host, Cond.methodLinkNest (rn 12) ixI M.2.2.1 (rn host) ∈ NW) (hI : iB M cc) (hfr : d + 2 ≤ R.frames) (hlo : 64 * (d + 2) ≤ R.locals) (hcs : cells + 1 + mc ≤ R.cells) (hss : slots + nf cc + ms ≤ R.slots) (hT : TriI M cc d mc ms hs QI) (hn : cn hs cc = n) (hQ : ∀ hs', QI hs' → cn hs' 12 = 0 ∧ n < cn hs' cc)
    (ha : a < nf 12) (hc : cc < 12) (hkd : ((ly 12 a).1 = 9 ∧ (ly 12 a).2 / 100 = cc ∧ (ly 12 a).2 % 100 = n) ∨ ((ly 12 a).1 = 7 ∧ (ly 12 a).2 = cc ∧ gO P 0 a = some n)) (hF : inFT 12 idxF 12 a = true) (hdecl : (tX 12 a).1 = rn 12)
    (kk : ∀ (hs' : List PS) (ρ' : Nat → Nat → Nat → Nat) (H2 : Heap) (locs2 : List Loc), QI hs' → SI D aC ρ0 hs0 s q0 P hs' ρ' α (updB dn a) H2 locs2 → W p l e R s m args below meth cd H2 locs2 (cells + 1 + mc) (slots + nf cc + ms) Q (F0 m (pc + 11) ls [])) : W p l e R s m args below meth cd H locs cells slots Q (F0 m pc ls []) := by
  obtain ⟨hx, hb, hml, hown, hts, hKK, hAO, hret, hlk, hini⟩ := id hC
  refine lv_aload_n hx hb hd0 rfl hl0 ?_
  refine w_new (own := 12) (M := M) hx hb hml hown hts hKK (fun _ => hAO (show (12 : Nat) ≠ 3 by decide)) hSI.1.1 hSI.2.2.1 hSI.zs hsz hd1 hd2 hd3 hcl hct hI (by show 1 ≤ 7; omega) hfr hlo hcs hss hT (fun hs' ρ' H1 locs1 q1 w1 r1 e1 z1 k1 s1 => ?_)
  have hq := hQ hs' q1
  rw [hn]
  refine f_put hC rfl hSI r1 e1 z1 k1 s1 w1 hq.1 ha hc hq.2 hkd hF hdecl hd4 (fun H2 locs2 hS2 => ?_)
  exact kk hs' ρ' H2 locs2 q1 hS2
theorem w_fldX {hs : List PS} {ρ : Nat → Nat → Nat → Nat} {α : Nat → Nat} {dn : Nat → Bool} {H : Heap} {locs : List Loc} {cells slots pc a cc n idxF idxN ixI d mc ms b aK aV : Nat} {v9 : Value} {M : MI} {QI : List PS → Prop} (hC : Ci p s m args meth cd mi_12 D aC) (hsz : ls.size = 2) (hl0 : ls[0]? = some (.val (.ref q0))) (hSI : SI D aC ρ0 hs0 s q0 P hs ρ α dn H locs)
    (hd0 : decode mi_12.2.2.2.1 pc = .ok (.aload_n 0, 1)) (hd1 : decode mi_12.2.2.2.1 (pc + 1) = .ok (.new idxN, 3)) (hd2 : decode mi_12.2.2.2.1 (pc + 4) = .ok (.dup, 1)) (hd3 : decode mi_12.2.2.2.1 (pc + 5) = .ok (.invokespecial ixI, 3)) (hd4 : decode mi_12.2.2.2.1 (pc + 8) = .ok (.putfield idxF, 3)) (hcl : Cond.classLink (rn 12) idxN (rn cc) ∈ GW)
    (hct : (Cond.methodLink (rn 12) ixI M.2.2.1 ∈ GW) ∨ ∃ host, Cond.methodLinkNest (rn 12) ixI M.2.2.1 (rn host) ∈ NW) (hI : iB M cc) (hfr : d + 2 ≤ R.frames) (hlo : 64 * (d + 2) ≤ R.locals) (hcs : cells + 1 + mc ≤ R.cells) (hss : slots + nf cc + ms ≤ R.slots) (hE : StE b aK aV v9 s H) (hVR : vk_R (rn 1) 55 OTX aK s) (hb1 : b ≤ H.size) (hb2 : ∀ c' j a, vc hs c' j a → b ≤ ρ c' j a) (hT : TriX M cc d mc ms hs QI b aK aV v9) (hn : cn hs cc = n) (hQ : ∀ hs', QI hs' → cn hs' 12 = 0 ∧ n < cn hs' cc)
    (ha : a < nf 12) (hc : cc < 12) (hkd : ((ly 12 a).1 = 9 ∧ (ly 12 a).2 / 100 = cc ∧ (ly 12 a).2 % 100 = n) ∨ ((ly 12 a).1 = 7 ∧ (ly 12 a).2 = cc ∧ gO P 0 a = some n)) (hF : inFT 12 idxF 12 a = true) (hdecl : (tX 12 a).1 = rn 12)
    (kk : ∀ (hs' : List PS) (ρ' : Nat → Nat → Nat → Nat) (H2 : Heap) (locs2 : List Loc), QI hs' → SI D aC ρ0 hs0 s q0 P hs' ρ' α (updB dn a) H2 locs2 → W p l e R s m args below meth cd H2 locs2 (cells + 1 + mc) (slots + nf cc + ms) Q (F0 m (pc + 11) ls [])) : W p l e R s m args below meth cd H locs cells slots Q (F0 m pc ls []) := by
  obtain ⟨hx, hb, hml, hown, hts, hKK, hAO, hret, hlk, hini⟩ := id hC
  refine lv_aload_n hx hb hd0 rfl hl0 ?_
  refine w_newX (own := 12) (M := M) hx hb hml hown hts hKK (fun _ => hAO (show (12 : Nat) ≠ 3 by decide)) hSI.1.1 hSI.2.2.1 hSI.zs hsz hd1 hd2 hd3 hcl hct hI (by show 1 ≤ 7; omega) hfr hlo hcs hss hE hVR hb1 hb2 hT (fun hs' ρ' H1 locs1 q1 w1 r1 e1 z1 k1 s1 => ?_)
  have hq := hQ hs' q1
  rw [hn]
  refine f_put hC rfl hSI r1 e1 z1 k1 s1 w1 hq.1 ha hc hq.2 hkd hF hdecl hd4 (fun H2 locs2 hS2 => ?_)
  exact kk hs' ρ' H2 locs2 q1 hS2
end FLD2
