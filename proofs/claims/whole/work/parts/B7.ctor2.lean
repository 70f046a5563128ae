/-! ===== constructors that set fields and call a method of their own ===== -/
theorem TriI_call {M : MI} {c d idx i x : Nat} {hs : List PS} {fI : Nat → Int32} {ops : List OP} {QI : List PS → Prop} (hw : wf hs) (hI : iB M c) (hy : plainName M.2.2.1.cls = true) (hown : M.2.2.2.2.2.2 = c) (hl : 1 ≤ M.2.2.2.2.1) (hd0 : decode M.2.2.2.1 0 = .ok (.aload_n 0, 1)) (hd1 : decode M.2.2.2.1 1 = .ok (.invokespecial idx, 3)) (hlink : Cond.methodLink (rn c) idx Lib.objectInit ∈ GW) (hck : ckOs M.2.2.2.1 c c fI 4 ops = true) (hcl : ∀ o ∈ ops, o.2.1 = 8 → Cond.classLink (rn c) o.2.2.2.2.1 (rn ((ly c o.2.2.2.1).2 % 100)) ∈ GW) (hD : ckD c fI ops = true) (h9 : ((List.range (nf c)).all fun a => !(Nat.beq (ly c a).1 9)) = true)
    (hd7 : decode M.2.2.2.1 (pcE 4 ops) = .ok (.aload_n 0, 1)) (hd8 : decode M.2.2.2.1 (pcE 4 ops + 1) = .ok (.invokevirtual x, 3)) (hd9 : decode M.2.2.2.1 (pcE 4 ops + 4) = .ok (.return_, 1)) (hct : inCT c x i = true) (hmv : inMV i 1 = true) (hic : (mt i).2.2.2.2.2.2 = c) (hT : Tri i d [vR c (cn hs c) 0] (hs.set c (nwO (hp hs c) fI (fun _ => none))) (fun r h => r = none ∧ QI h)) :
    TriI M c (d + 1) (sumC ops) (sumS c ops) hs QI := by
  have h13 := hI.2.2.2.2.2.2.2.2.2
  subst hown
  refine TriI_of hy hI.2.2.2.1 hI.2.2.2.2.2.1 hl hI.2.2.2.2.2.2.2.2.1 rfl (fun p l e s m below meth cd D aC ρ q0 ls hC hls hR hat hq => ?_)
  have hl0 : ls[0]? = some (.val (.ref q0)) := lv_at hls 0 rfl
  have q0l : q0 < s.heap.size := hat.lt
  refine w_obj hC hl0 hls.1 hd0 hd1 hlink (by show 1 ≤ d + 1 + 1; omega) (by show 12 ≤ 64 * (d + 1 + 1); omega) ?_
  obtain ⟨hx, hb, hml, hown, hts, hKK, hAO, hret, hlk, hini⟩ := id hC
  refine w_ops (fO := fun _ => none) (A := iA ρ hs s.heap.size q0) hx hb hown hts hKK hAO h13 hini hl0 (Or.inl rfl) ops 4 (fun _ => 0) (fun _ => false) s.heap [] 0 0 hck hcl (Con.start hR hat rfl hq) va_S.rf (by show 0 + _ ≤ sumC ops; omega) (by show 0 + _ ≤ sumS _ ops; omega) (fun α' H' locs' hC' hS' => ?_)
  have fin := hC'.fin hw h13 (nwO_old _ _ _) (ckD_of hD rfl)
  have wf1 := wf_nwO (fI := fI) (fO := fun _ => none) hw h13 (fun a _ _ k hk => by cases hk) (no9 h9)
  rw [Nat.zero_add, Nat.zero_add]
  obtain ⟨k, hk, hmb, hin, hsel, -⟩ := any_MV hmv
  have hk0 : k = 0 := by omega
  subst hk0
  refine lv_aload_n hx hb hd7 rfl hl0 ?_
  have e0 : rx ρ M.2.2.2.2.2.2 (cn hs M.2.2.2.2.2.2) q0 α' M.2.2.2.2.2.2 (cn hs M.2.2.2.2.2.2) 0 = q0 := rx_q
  have vn : vc (hs.set M.2.2.2.2.2.2 (nwO (hp hs M.2.2.2.2.2.2) fI (fun _ => none))) M.2.2.2.2.2.2 (cn hs M.2.2.2.2.2.2) 0 := ⟨h13, by rw [cn_new hw.1 h13 (nwO_old _ _ _), if_pos rfl]; omega⟩
  have zsub : ∀ q, zA (rx ρ M.2.2.2.2.2.2 (cn hs M.2.2.2.2.2.2) q0 α') (hs.set M.2.2.2.2.2.2 (nwO (hp hs M.2.2.2.2.2.2) fI (fun _ => none))) H'.size q → iA ρ hs s.heap.size q0 q := hC'.zs hw h13 (nwO_old _ _ _) (ckD_of hD rfl)
  have := w_callv (p := p) (l := l) (e := e) (below := below) (meth := meth) (cells := sumC ops) (slots := sumS M.2.2.2.2.2.2 ops) (As := []) (rest := []) (R := rmd (d + 1) (sumC ops) (sumS M.2.2.2.2.2.2 ops)) (Q := MQ below (iQ D aC ρ hs s.heap.size M.2.2.2.2.2.2 q0 QI) #[Value.ref q0] s (sumC ops) (sumS M.2.2.2.2.2.2 ops) (iA ρ hs s.heap.size q0)) hx hb hml hown hts hKK wf1 fin.1 hS' zsub hls.1 hd8 (any_CT hct) hmb hin hsel hic rfl vn (fun v hv => by cases hv) (by show 0 ≤ 8; omega) (by show d + 2 ≤ d + 1 + 1; omega) (by show 64 * (d + 2) ≤ 64 * (d + 1 + 1); omega) ⟨by show _ + 0 ≤ sumC ops; omega, by show _ + 0 ≤ sumS _ ops; omega⟩ hT (fun r hs' ρ' H1 locs1 hQ hR1 hw1 hv1 hext1 hsz1 hk1 hS1 => by
    obtain ⟨rfl, hQI⟩ := hQ
    exact W.vret hx hb hret (fun t ht _ => ⟨hs', ρ', rfl, hQI, hw1, by rw [ht]; exact hR1, ext_trans fin.2 hext1 (by have := hS'.1; omega), by rw [hext1.2.1 _ _ _ vn.2]; exact e0, hS1.F ht⟩) hS1.2.2 hd9 hlk)
  rw [e0] at this
  exact this
