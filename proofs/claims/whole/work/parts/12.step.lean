/-! ===== one instruction, for every machine (gen_step.py) ===== -/
set_option maxHeartbeats 4000000 in
set_option maxRecDepth 100000 in
theorem stp_sound {M : MI} (hM : okM M) {z : Nat × Nat × Nat × Nat} {d p : Nat} {K : Nat → List (Nat × AV) → List AV → List PS → Prop} {Q : Option AV → List PS → Prop} {pc : Nat} {lv : List (Nat × AV)} {st : List AV} {hs : List PS} (h : stp M d p K Q pc lv st hs) (hK : ∀ pc lv st hs, K pc lv st hs → Go M z d pc lv st hs Q) : Go M z d pc lv st hs Q := by
  unfold stp at h
  split at h
  · exact h.elim
  rename_i i nx tg cv sw hent
  have hck0 := ck2 (hM pc _ hent)
  have hdec : decode M.2.2.2.1 pc = .ok (i, nx - pc) := of_decide_eq_true hck0.1
  have hck : ckB M pc i nx tg cv sw = true := hck0.2
  clear hck0 hent
  intro pr l e s m args below meth c H locs ls D aC ρ0 hs0 ρ sz hC hz hwf hlv hst hR hl hext hS
  obtain ⟨hx, hb, hml, hown, hts, hKK, hret, hlk, hsz⟩ := id hC
  have go : ∀ pc' st', K pc' lv st' hs → (∀ v ∈ st', vv hs v) → W pr l e (rmd d z.2.2.1 z.2.2.2) s m args below meth c H locs z.1 z.2.1 (MQ below (zQ D aC ρ0 hs0 sz Q) args s z.2.2.1 z.2.2.2 (zA ρ0 hs0 sz)) (F0 m pc' ls (st'.map (zc ρ))) :=
    fun pc' st' hk hv => hK _ _ _ _ hk pr l e s m args below meth c H locs ls D aC ρ0 hs0 ρ sz hC hz hwf hlv hv hR hl hext hS
  have goL : ∀ pc' lv' st' ls', K pc' lv' st' hs → (∀ q ∈ lv', vv hs q.2) → (∀ v ∈ st', vv hs v) → lv_has ls' M.2.2.2.2.1 (lv'.map fun q => (q.1, zc ρ q.2)) → W pr l e (rmd d z.2.2.1 z.2.2.2) s m args below meth c H locs z.1 z.2.1 (MQ below (zQ D aC ρ0 hs0 sz Q) args s z.2.2.1 z.2.2.2 (zA ρ0 hs0 sz)) (F0 m pc' ls' (st'.map (zc ρ))) :=
    fun pc' lv' st' ls' hk h1 h2 h3 => hK _ _ _ _ hk pr l e s m args below meth c H locs ls' D aC ρ0 hs0 ρ sz hC hz hwf h1 h2 hR h3 hext hS
  have goH : ∀ pc' st' c' P H' locs', K pc' lv st' (hs.set c' P) → c' < 13 → gN P = cn hs c' → wf (hs.set c' P) → (∀ v ∈ st', vv hs v) → RelH D aC ρ (hs.set c' P) H' → va_S (zA ρ0 hs0 sz) s.heap H' locs' → W pr l e (rmd d z.2.2.1 z.2.2.2) s m args below meth c H' locs' z.1 z.2.1 (MQ below (zQ D aC ρ0 hs0 sz Q) args s z.2.2.1 z.2.2.2 (zA ρ0 hs0 sz)) (F0 m pc' ls (st'.map (zc ρ))) := by
    intro pc' st' c' P H' locs' hk h13 hg hw hv hr hs'
    have hcn := cn_set (P := P) (c := c') (hs := hs) (by rw [hwf.1]; exact h13) hg
    exact hK _ _ _ _ hk pr l e s m args below meth c H' locs' ls D aC ρ0 hs0 ρ sz hC hz hw (fun q hq => vv_cn hcn (hlv q hq)) (fun v hq => vv_cn hcn (hv v hq)) hr hl (ext_cn hext hcn) hs'
  have hsn : ∀ {n : Nat}, pc + n - pc = n := fun {n} => Nat.add_sub_cancel_left pc n
  cases i with
  | iconst q =>
    obtain ⟨hk1, hk0⟩ := ck2 hck
    clear hck
    have hn := Nat.eq_of_beq_eq_true (show Nat.beq nx (pc + 1) = true from hk1)
    subst hn
    rw [hsn] at hdec
    have hck := hk0
    have hc := of_decide_eq_true (show decide (cv = _) = true from hck)
    subst hc
    exact lv_iconst hx hb hdec rfl (go _ _ h (vs_i hst))
  | bipush q =>
    obtain ⟨hk1, hk0⟩ := ck2 hck
    clear hck
    have hn := Nat.eq_of_beq_eq_true (show Nat.beq nx (pc + 2) = true from hk1)
    subst hn
    rw [hsn] at hdec
    have hck := hk0
    have hc := of_decide_eq_true (show decide (cv = _) = true from hck)
    subst hc
    exact lv_bipush hx hb hdec rfl (go _ _ h (vs_i hst))
  | sipush q =>
    obtain ⟨hk1, hk0⟩ := ck2 hck
    clear hck
    have hn := Nat.eq_of_beq_eq_true (show Nat.beq nx (pc + 3) = true from hk1)
    subst hn
    rw [hsn] at hdec
    have hck := hk0
    have hc := of_decide_eq_true (show decide (cv = _) = true from hck)
    subst hc
    exact lv_sipush hx hb hdec rfl (go _ _ h (vs_i hst))
  | lconst q =>
    obtain ⟨hk1, hk0⟩ := ck2 hck
    clear hck
    have hn := Nat.eq_of_beq_eq_true (show Nat.beq nx (pc + 1) = true from hk1)
    subst hn
    rw [hsn] at hdec
    have hck := hk0
    have hc := of_decide_eq_true (show decide (cv = _) = true from hck)
    subst hc
    exact lv_lconst hx hb hdec rfl (go _ _ h (vs_l hst))
  | ldc q =>
    obtain ⟨hk1, hk0⟩ := ck2 hck
    clear hck
    have hn := Nat.eq_of_beq_eq_true (show Nat.beq nx (pc + 2) = true from hk1)
    subst hn
    rw [hsn] at hdec
    have hck := hk0
    obtain ⟨⟨e1, e2, e3, e4⟩, he, h'⟩ := List.any_eq_true.mp (show CI.any _ = true from hck)
    obtain ⟨h1, h'⟩ := ck2 h'
    obtain ⟨h2, h3⟩ := ck2 h'
    have h1 := Nat.eq_of_beq_eq_true h1; have h2 := Nat.eq_of_beq_eq_true h2; have h3 := of_decide_eq_true h3
    subst h1; subst h2; subst h3
    exact lv_ldc hx hb hown (hts _ (wGW_ok (List.all_eq_true.mp CI_ck _ he))) hdec (go _ _ h (vs_i hst))
  | ldc_w q =>
    obtain ⟨hk1, hk0⟩ := ck2 hck
    clear hck
    have hn := Nat.eq_of_beq_eq_true (show Nat.beq nx (pc + 3) = true from hk1)
    subst hn
    rw [hsn] at hdec
    have hck := hk0
    obtain ⟨⟨e1, e2, e3, e4⟩, he, h'⟩ := List.any_eq_true.mp (show CI.any _ = true from hck)
    obtain ⟨h1, h'⟩ := ck2 h'
    obtain ⟨h2, h3⟩ := ck2 h'
    have h1 := Nat.eq_of_beq_eq_true h1; have h2 := Nat.eq_of_beq_eq_true h2; have h3 := of_decide_eq_true h3
    subst h1; subst h2; subst h3
    exact lv_ldcw hx hb hown (hts _ (wGW_ok (List.all_eq_true.mp CI_ck _ he))) hdec (go _ _ h (vs_i hst))
  | ldc2_w q =>
    obtain ⟨hk1, hk0⟩ := ck2 hck
    clear hck
    have hn := Nat.eq_of_beq_eq_true (show Nat.beq nx (pc + 3) = true from hk1)
    subst hn
    rw [hsn] at hdec
    have hck := hk0
    obtain ⟨⟨e1, e2, e3, e4⟩, he, h'⟩ := List.any_eq_true.mp (show CJ.any _ = true from hck)
    obtain ⟨h1, h'⟩ := ck2 h'
    obtain ⟨h2, h3⟩ := ck2 h'
    have h1 := Nat.eq_of_beq_eq_true h1; have h2 := Nat.eq_of_beq_eq_true h2; have h3 := of_decide_eq_true h3
    subst h1; subst h2; subst h3
    exact lv_ldc2 hx hb hown (hts _ (wGW_ok (List.all_eq_true.mp CJ_ck _ he))) hdec (go _ _ h (vs_l hst))
  | aconst_null =>
    have hn := Nat.eq_of_beq_eq_true (show Nat.beq nx (pc + 1) = true from hck)
    subst hn
    rw [hsn] at hdec
    exact lv_null hx hb hdec (go _ _ h (vs_c trivial hst))
  | iload k =>
    have hn := Nat.eq_of_beq_eq_true (show Nat.beq nx (pc + 2) = true from hck)
    subst hn
    rw [hsn] at hdec
    replace h := ldI_of h
    obtain ⟨x, hm, h⟩ := h
    exact lv_iload hx hb hdec (lvm hl hm) (go _ _ h (vs_i hst))
  | iload_n k =>
    have hn := Nat.eq_of_beq_eq_true (show Nat.beq nx (pc + 1) = true from hck)
    subst hn
    rw [hsn] at hdec
    replace h := ldI_of h
    obtain ⟨x, hm, h⟩ := h
    exact lv_iload_n hx hb hdec rfl (lvm hl hm) (go _ _ h (vs_i hst))
  | lload k =>
    have hn := Nat.eq_of_beq_eq_true (show Nat.beq nx (pc + 2) = true from hck)
    subst hn
    rw [hsn] at hdec
    replace h := ldL_of h
    obtain ⟨x, hm, h⟩ := h
    exact lv_lload hx hb hdec (lvm hl hm) (go _ _ h (vs_l hst))
  | lload_n k =>
    have hn := Nat.eq_of_beq_eq_true (show Nat.beq nx (pc + 1) = true from hck)
    subst hn
    rw [hsn] at hdec
    replace h := ldL_of h
    obtain ⟨x, hm, h⟩ := h
    exact lv_lload_n hx hb hdec rfl (lvm hl hm) (go _ _ h (vs_l hst))
  | aload k =>
    have hn := Nat.eq_of_beq_eq_true (show Nat.beq nx (pc + 2) = true from hck)
    subst hn
    rw [hsn] at hdec
    replace h := ldA_of h
    obtain ⟨o, hm, h⟩ := h
    match o, hm, h with
    | none, hm, h => exact lv_aloadN hx hb hdec (lvm hl hm) (go _ _ h (vs_c trivial hst))
    | some (c', j, a), hm, h => exact lv_aload hx hb hdec (lvm hl hm) (go _ _ h (vs_c (hlv _ hm) hst))
  | aload_n k =>
    have hn := Nat.eq_of_beq_eq_true (show Nat.beq nx (pc + 1) = true from hck)
    subst hn
    rw [hsn] at hdec
    replace h := ldA_of h
    obtain ⟨o, hm, h⟩ := h
    match o, hm, h with
    | none, hm, h => exact lv_aload_nN hx hb hdec rfl (lvm hl hm) (go _ _ h (vs_c trivial hst))
    | some (c', j, a), hm, h => exact lv_aload_n hx hb hdec rfl (lvm hl hm) (go _ _ h (vs_c (hlv _ hm) hst))
  | istore k =>
    obtain ⟨hk1, hk0⟩ := ck2 hck
    clear hck
    have hn := Nat.eq_of_beq_eq_true (show Nat.beq nx (pc + 2) = true from hk1)
    subst hn
    rw [hsn] at hdec
    have hck := hk0
    replace h := pI_of h
    obtain ⟨x, r, rfl, h⟩ := h
    exact lv_istore hx hb hdec hl (Nat.le_of_ble_eq_true hck) (st1_map (v := vI x)) (fun ls' hl' => goL _ _ _ _ h (st1_v hlv trivial) (vs_t hst) hl')
  | istore_n k =>
    obtain ⟨hk1, hk0⟩ := ck2 hck
    clear hck
    have hn := Nat.eq_of_beq_eq_true (show Nat.beq nx (pc + 1) = true from hk1)
    subst hn
    rw [hsn] at hdec
    have hck := hk0
    replace h := pI_of h
    obtain ⟨x, r, rfl, h⟩ := h
    exact lv_istore_n hx hb hdec rfl hl (Nat.le_of_ble_eq_true hck) (st1_map (v := vI x)) (fun ls' hl' => goL _ _ _ _ h (st1_v hlv trivial) (vs_t hst) hl')
  | lstore k =>
    obtain ⟨hk1, hk0⟩ := ck2 hck
    clear hck
    have hn := Nat.eq_of_beq_eq_true (show Nat.beq nx (pc + 2) = true from hk1)
    subst hn
    rw [hsn] at hdec
    have hck := hk0
    replace h := pL_of h
    obtain ⟨x, r, rfl, h⟩ := h
    exact lv_lstore hx hb hdec hl (Nat.le_of_ble_eq_true hck) (st2_map (v := vL x)) (fun ls' hl' => goL _ _ _ _ h (st2_v hlv trivial) (vs_t hst) hl')
  | lstore_n k =>
    obtain ⟨hk1, hk0⟩ := ck2 hck
    clear hck
    have hn := Nat.eq_of_beq_eq_true (show Nat.beq nx (pc + 1) = true from hk1)
    subst hn
    rw [hsn] at hdec
    have hck := hk0
    replace h := pL_of h
    obtain ⟨x, r, rfl, h⟩ := h
    exact lv_lstore_n hx hb hdec rfl hl (Nat.le_of_ble_eq_true hck) (st2_map (v := vL x)) (fun ls' hl' => goL _ _ _ _ h (st2_v hlv trivial) (vs_t hst) hl')
  | astore k =>
    obtain ⟨hk1, hk0⟩ := ck2 hck
    clear hck
    have hn := Nat.eq_of_beq_eq_true (show Nat.beq nx (pc + 2) = true from hk1)
    subst hn
    rw [hsn] at hdec
    have hck := hk0
    replace h := pA_of h
    obtain ⟨o, r, rfl, h⟩ := h
    match o, h, hst with
    | none, h, hst => exact lv_astoreN hx hb hdec hl (Nat.le_of_ble_eq_true hck) (st1_map (v := vN)) (fun ls' hl' => goL _ _ _ _ h (st1_v hlv trivial) (vs_t hst) hl')
    | some (c', j, a), h, hst => exact lv_astore hx hb hdec hl (Nat.le_of_ble_eq_true hck) (st1_map (v := vR c' j a)) (fun ls' hl' => goL _ _ _ _ h (st1_v hlv (vs_h hst)) (vs_t hst) hl')
  | astore_n k =>
    obtain ⟨hk1, hk0⟩ := ck2 hck
    clear hck
    have hn := Nat.eq_of_beq_eq_true (show Nat.beq nx (pc + 1) = true from hk1)
    subst hn
    rw [hsn] at hdec
    have hck := hk0
    replace h := pA_of h
    obtain ⟨o, r, rfl, h⟩ := h
    match o, h, hst with
    | none, h, hst => exact lv_astore_nN hx hb hdec rfl hl (Nat.le_of_ble_eq_true hck) (st1_map (v := vN)) (fun ls' hl' => goL _ _ _ _ h (st1_v hlv trivial) (vs_t hst) hl')
    | some (c', j, a), h, hst => exact lv_astore_n hx hb hdec rfl hl (Nat.le_of_ble_eq_true hck) (st1_map (v := vR c' j a)) (fun ls' hl' => goL _ _ _ _ h (st1_v hlv (vs_h hst)) (vs_t hst) hl')
  | iinc k q =>
    obtain ⟨hk1, hk0⟩ := ck2 hck
    clear hck
    have hn := Nat.eq_of_beq_eq_true (show Nat.beq nx (pc + 3) = true from hk1)
    subst hn
    rw [hsn] at hdec
    have hck := hk0
    obtain ⟨hk2, hk3⟩ := ck2 hck
    have hc := of_decide_eq_true (show decide (cv = _) = true from hk3)
    subst hc
    replace h := ldI_of h
    obtain ⟨x, hm, h⟩ := h
    obtain ⟨i0, hi0, he0⟩ := List.getElem_of_mem (List.mem_map.mpr ⟨(k, vI x), hm, rfl⟩ : (k, zc ρ (vI x)) ∈ lv.map fun q => (q.1, zc ρ q.2))
    exact lv_iinc (k := i0) hx hb hdec hl (by rw [List.getElem?_eq_getElem hi0, he0]; rfl) rfl (Nat.le_of_ble_eq_true hk2) (st1_map (v := vI (x + Int32.ofInt q))) (fun ls' hl' => goL _ _ _ _ h (st1_v hlv trivial) hst hl')
  | iadd =>
    have hn := Nat.eq_of_beq_eq_true (show Nat.beq nx (pc + 1) = true from hck)
    subst hn
    rw [hsn] at hdec
    replace h := bI_of h
    obtain ⟨x, y, r, rfl, h⟩ := h
    exact lv_iadd hx hb hdec (go _ _ h (vs_i (vs_t (vs_t hst))))
  | isub =>
    have hn := Nat.eq_of_beq_eq_true (show Nat.beq nx (pc + 1) = true from hck)
    subst hn
    rw [hsn] at hdec
    replace h := bI_of h
    obtain ⟨x, y, r, rfl, h⟩ := h
    exact lv_isub hx hb hdec (go _ _ h (vs_i (vs_t (vs_t hst))))
  | imul =>
    have hn := Nat.eq_of_beq_eq_true (show Nat.beq nx (pc + 1) = true from hck)
    subst hn
    rw [hsn] at hdec
    replace h := bI_of h
    obtain ⟨x, y, r, rfl, h⟩ := h
    exact lv_imul hx hb hdec (go _ _ h (vs_i (vs_t (vs_t hst))))
  | iand =>
    have hn := Nat.eq_of_beq_eq_true (show Nat.beq nx (pc + 1) = true from hck)
    subst hn
    rw [hsn] at hdec
    replace h := bI_of h
    obtain ⟨x, y, r, rfl, h⟩ := h
    exact lv_iand hx hb hdec (go _ _ h (vs_i (vs_t (vs_t hst))))
  | ior =>
    have hn := Nat.eq_of_beq_eq_true (show Nat.beq nx (pc + 1) = true from hck)
    subst hn
    rw [hsn] at hdec
    replace h := bI_of h
    obtain ⟨x, y, r, rfl, h⟩ := h
    exact lv_ior hx hb hdec (go _ _ h (vs_i (vs_t (vs_t hst))))
  | ixor =>
    have hn := Nat.eq_of_beq_eq_true (show Nat.beq nx (pc + 1) = true from hck)
    subst hn
    rw [hsn] at hdec
    replace h := bI_of h
    obtain ⟨x, y, r, rfl, h⟩ := h
    exact lv_ixor hx hb hdec (go _ _ h (vs_i (vs_t (vs_t hst))))
  | ishl =>
    have hn := Nat.eq_of_beq_eq_true (show Nat.beq nx (pc + 1) = true from hck)
    subst hn
    rw [hsn] at hdec
    replace h := bI_of h
    obtain ⟨x, y, r, rfl, h⟩ := h
    exact lv_ishl hx hb hdec (go _ _ h (vs_i (vs_t (vs_t hst))))
  | ishr =>
    have hn := Nat.eq_of_beq_eq_true (show Nat.beq nx (pc + 1) = true from hck)
    subst hn
    rw [hsn] at hdec
    replace h := bI_of h
    obtain ⟨x, y, r, rfl, h⟩ := h
    exact lv_ishr hx hb hdec (go _ _ h (vs_i (vs_t (vs_t hst))))
  | iushr =>
    have hn := Nat.eq_of_beq_eq_true (show Nat.beq nx (pc + 1) = true from hck)
    subst hn
    rw [hsn] at hdec
    replace h := bI_of h
    obtain ⟨x, y, r, rfl, h⟩ := h
    exact lv_iushr hx hb hdec rfl (go _ _ h (vs_i (vs_t (vs_t hst))))
  | idiv =>
    have hn := Nat.eq_of_beq_eq_true (show Nat.beq nx (pc + 1) = true from hck)
    subst hn
    rw [hsn] at hdec
    replace h := bI_of h
    obtain ⟨x, y, r, rfl, h⟩ := h
    exact lv_idiv hx hb hdec h.1 (go _ _ h.2 (vs_i (vs_t (vs_t hst))))
  | irem =>
    have hn := Nat.eq_of_beq_eq_true (show Nat.beq nx (pc + 1) = true from hck)
    subst hn
    rw [hsn] at hdec
    replace h := bI_of h
    obtain ⟨x, y, r, rfl, h⟩ := h
    exact lv_irem hx hb hdec h.1 (go _ _ h.2 (vs_i (vs_t (vs_t hst))))
  | ladd =>
    have hn := Nat.eq_of_beq_eq_true (show Nat.beq nx (pc + 1) = true from hck)
    subst hn
    rw [hsn] at hdec
    replace h := bL_of h
    obtain ⟨x, y, r, rfl, h⟩ := h
    exact lv_ladd hx hb hdec (go _ _ h (vs_l (vs_t (vs_t hst))))
  | lsub =>
    have hn := Nat.eq_of_beq_eq_true (show Nat.beq nx (pc + 1) = true from hck)
    subst hn
    rw [hsn] at hdec
    replace h := bL_of h
    obtain ⟨x, y, r, rfl, h⟩ := h
    exact lv_lsub hx hb hdec (go _ _ h (vs_l (vs_t (vs_t hst))))
  | lmul =>
    have hn := Nat.eq_of_beq_eq_true (show Nat.beq nx (pc + 1) = true from hck)
    subst hn
    rw [hsn] at hdec
    replace h := bL_of h
    obtain ⟨x, y, r, rfl, h⟩ := h
    exact lv_lmul hx hb hdec (go _ _ h (vs_l (vs_t (vs_t hst))))
  | land =>
    have hn := Nat.eq_of_beq_eq_true (show Nat.beq nx (pc + 1) = true from hck)
    subst hn
    rw [hsn] at hdec
    replace h := bL_of h
    obtain ⟨x, y, r, rfl, h⟩ := h
    exact lv_land hx hb hdec (go _ _ h (vs_l (vs_t (vs_t hst))))
  | lor =>
    have hn := Nat.eq_of_beq_eq_true (show Nat.beq nx (pc + 1) = true from hck)
    subst hn
    rw [hsn] at hdec
    replace h := bL_of h
    obtain ⟨x, y, r, rfl, h⟩ := h
    exact lv_lor hx hb hdec (go _ _ h (vs_l (vs_t (vs_t hst))))
  | lxor =>
    have hn := Nat.eq_of_beq_eq_true (show Nat.beq nx (pc + 1) = true from hck)
    subst hn
    rw [hsn] at hdec
    replace h := bL_of h
    obtain ⟨x, y, r, rfl, h⟩ := h
    exact lv_lxor hx hb hdec (go _ _ h (vs_l (vs_t (vs_t hst))))
  | ldiv =>
    have hn := Nat.eq_of_beq_eq_true (show Nat.beq nx (pc + 1) = true from hck)
    subst hn
    rw [hsn] at hdec
    replace h := bL_of h
    obtain ⟨x, y, r, rfl, h⟩ := h
    exact lv_ldiv hx hb hdec h.1 (go _ _ h.2 (vs_l (vs_t (vs_t hst))))
  | lrem =>
    have hn := Nat.eq_of_beq_eq_true (show Nat.beq nx (pc + 1) = true from hck)
    subst hn
    rw [hsn] at hdec
    replace h := bL_of h
    obtain ⟨x, y, r, rfl, h⟩ := h
    exact lv_lrem hx hb hdec h.1 (go _ _ h.2 (vs_l (vs_t (vs_t hst))))
  | lcmp =>
    have hn := Nat.eq_of_beq_eq_true (show Nat.beq nx (pc + 1) = true from hck)
    subst hn
    rw [hsn] at hdec
    replace h := bL_of h
    obtain ⟨x, y, r, rfl, h⟩ := h
    exact W.lcmp hx hb hdec (go _ _ h (vs_i (vs_t (vs_t hst))))
  | lshl =>
    have hn := Nat.eq_of_beq_eq_true (show Nat.beq nx (pc + 1) = true from hck)
    subst hn
    rw [hsn] at hdec
    replace h := bS_of h
    obtain ⟨x, y, r, rfl, h⟩ := h
    exact lv_lshl hx hb hdec rfl (go _ _ h (vs_l (vs_t (vs_t hst))))
  | lushr =>
    have hn := Nat.eq_of_beq_eq_true (show Nat.beq nx (pc + 1) = true from hck)
    subst hn
    rw [hsn] at hdec
    replace h := bS_of h
    obtain ⟨x, y, r, rfl, h⟩ := h
    exact lv_lushr hx hb hdec rfl (go _ _ h (vs_l (vs_t (vs_t hst))))
  | ineg =>
    have hn := Nat.eq_of_beq_eq_true (show Nat.beq nx (pc + 1) = true from hck)
    subst hn
    rw [hsn] at hdec
    replace h := pI_of h
    obtain ⟨x, r, rfl, h⟩ := h
    exact lv_ineg hx hb hdec (go _ _ h (vs_i (vs_t hst)))
  | lneg =>
    have hn := Nat.eq_of_beq_eq_true (show Nat.beq nx (pc + 1) = true from hck)
    subst hn
    rw [hsn] at hdec
    replace h := pL_of h
    obtain ⟨x, r, rfl, h⟩ := h
    exact lv_lneg hx hb hdec (go _ _ h (vs_l (vs_t hst)))
  | i2l =>
    have hn := Nat.eq_of_beq_eq_true (show Nat.beq nx (pc + 1) = true from hck)
    subst hn
    rw [hsn] at hdec
    replace h := pI_of h
    obtain ⟨x, r, rfl, h⟩ := h
    exact lv_i2l hx hb hdec rfl (go _ _ h (vs_l (vs_t hst)))
  | l2i =>
    have hn := Nat.eq_of_beq_eq_true (show Nat.beq nx (pc + 1) = true from hck)
    subst hn
    rw [hsn] at hdec
    replace h := pL_of h
    obtain ⟨x, r, rfl, h⟩ := h
    exact lv_l2i hx hb hdec rfl (go _ _ h (vs_i (vs_t hst)))
  | i2b =>
    have hn := Nat.eq_of_beq_eq_true (show Nat.beq nx (pc + 1) = true from hck)
    subst hn
    rw [hsn] at hdec
    replace h := pI_of h
    obtain ⟨x, r, rfl, h⟩ := h
    exact lv_i2b hx hb hdec rfl (go _ _ h (vs_i (vs_t hst)))
  | dup =>
    have hn := Nat.eq_of_beq_eq_true (show Nat.beq nx (pc + 1) = true from hck)
    subst hn
    rw [hsn] at hdec
    match st, h, hst with
    | v :: r, h, hst =>
      cases hv : isL v with
      | true =>
        have h : (bif isL v then False else K (pc + 1) lv (v :: v :: r) hs) := h
        rw [hv] at h; exact h.elim
      | false =>
        have h : (bif isL v then False else K (pc + 1) lv (v :: v :: r) hs) := h
        rw [hv] at h
        exact lv_dup hx hb hdec (by rw [cat_zc, hv]; rfl) (go _ _ h (vs_c (vs_h hst) hst))
    | [], h, _ => exact False.elim h
  | pop =>
    have hn := Nat.eq_of_beq_eq_true (show Nat.beq nx (pc + 1) = true from hck)
    subst hn
    rw [hsn] at hdec
    match st, h, hst with
    | v :: r, h, hst =>
      cases hv : isL v with
      | true =>
        have h : (bif isL v then False else K (pc + 1) lv r hs) := h
        rw [hv] at h; exact h.elim
      | false =>
        have h : (bif isL v then False else K (pc + 1) lv r hs) := h
        rw [hv] at h
        exact lv_pop hx hb hdec (by rw [cat_zc, hv]; rfl) (go _ _ h (vs_t hst))
    | [], h, _ => exact False.elim h
  | dup2 =>
    have hn := Nat.eq_of_beq_eq_true (show Nat.beq nx (pc + 1) = true from hck)
    subst hn
    rw [hsn] at hdec
    match st, h, hst with
    | v :: w :: r, h, hst =>
      have h : (bif isL v then K (pc + 1) lv (v :: v :: w :: r) hs else bif isL w then False else K (pc + 1) lv (v :: w :: v :: w :: r) hs) := h
      cases hv : isL v with
      | true =>
        rw [hv] at h
        exact lv_dup2_2 hx hb hdec (by rw [cat_zc, hv]; rfl) (go _ _ h (vs_c (vs_h hst) hst))
      | false =>
        rw [hv] at h
        cases hw : isL w with
        | true => rw [hw] at h; exact h.elim
        | false =>
          rw [hw] at h
          exact lv_dup2_11 hx hb hdec (by rw [cat_zc, hv]; rfl) (by rw [cat_zc, hw]; rfl) (go _ _ h (vs_c (vs_h hst) (vs_c (vs_h (vs_t hst)) hst)))
    | [v], h, _ => exact False.elim h
    | [], h, _ => exact False.elim h
  | getfield x =>
    obtain ⟨hk1, hk0⟩ := ck2 hck
    clear hck
    have hn := Nat.eq_of_beq_eq_true (show Nat.beq nx (pc + 3) = true from hk1)
    subst hn
    rw [hsn] at hdec
    have hck := hk0
    replace h := cN_of h
    obtain ⟨cl, a, q, rfl, h⟩ := h
    replace h := pR_of h
    obtain ⟨c', j, a', r, rfl, h⟩ := h
    replace h := cond_of h
    obtain ⟨hb1, h⟩ := h
    obtain ⟨h1, h2⟩ := ck2 hb1
    have h1 := Nat.eq_of_beq_eq_true h1; have h2 := Nat.eq_of_beq_eq_true h2
    subst h1; subst h2
    obtain ⟨t, hF⟩ := any_FT hck
    have hv : vc hs c' j 0 := vs_h hst
    obtain ⟨w, hf, hzw, hvw⟩ := getK_of (ρ := ρ) hwf hv (FT_in hF).2.2 h
    refine z_get hx hb hown hts hKK hR hv hF hdec ?_
    rw [← hzw]
    exact go _ _ hf (vs_c hvw (vs_t hst))
  | putfield x =>
    obtain ⟨hk1, hk0⟩ := ck2 hck
    clear hck
    have hn := Nat.eq_of_beq_eq_true (show Nat.beq nx (pc + 3) = true from hk1)
    subst hn
    rw [hsn] at hdec
    have hck := hk0
    replace h := cN_of h
    obtain ⟨cl, a, q, rfl, h⟩ := h
    obtain ⟨hck, hfin⟩ := ck2 (show (inFT M.2.2.2.2.2.2 x cl a && !(tX cl a).2.2.2) = true from hck)
    have hfin : (tX cl a).2.2.2 = false := by simpa using hfin
    obtain ⟨t, hF⟩ := any_FT hck
    obtain ⟨-, hc13, ha⟩ := FT_in hF
    have hkt := kt_of hc13 ha
    match st, h, hst with
    | v :: .inr (.inr (some (c', j, a'))) :: r, h, hst =>
      replace h := cond_of h
      obtain ⟨hb1, h⟩ := h
      obtain ⟨h1, h2⟩ := ck2 hb1
      have h1 := Nat.eq_of_beq_eq_true h1; have h2 := Nat.eq_of_beq_eq_true h2
      subst h1; subst h2
      have hv : vc hs c' j 0 := vs_h (vs_t hst)
      have hA := zA_of hext hv
      unfold putK at h
      split at h
      · rename_i hk
        replace h := pI_of h
        obtain ⟨x, r', he, h⟩ := h
        cases he
        have hty : tyz c' a = .int := by
          rw [hk] at hkt; revert hkt; cases tyz c' a <;> simp [ktb]
        exact z_put (P := sI (hp hs c') j a x) hx hb hown hts hKK hR hwf.1 hv hF hfin hA hS (by rw [hty]; rfl) (by rw [hty]; rfl) rfl (sI_fv (Or.inl hk)) (fun j' hj => u2_ne hj) (fun _ _ => rfl) (fun _ _ => rfl) rfl rfl rfl hdec (fun H1 l1 r1 s1 => goH _ _ _ _ _ _ h hc13 rfl (wf_same hwf hc13 rfl rfl rfl) (vs_t (vs_t hst)) r1 s1)
      · rename_i hk
        replace h := pI_of h
        obtain ⟨x, r', he, hxb, h⟩ := h
        cases he
        have hty : tyz c' a = .boolean := by
          rw [hk] at hkt; revert hkt; cases tyz c' a <;> simp [ktb]
        exact z_put (P := sI (hp hs c') j a x) hx hb hown hts hKK hR hwf.1 hv hF hfin hA hS (by rw [hty]; exact nar_b hxb) (by rw [hty]; rcases hxb with rfl | rfl <;> rfl) rfl (sI_fv (Or.inr hk)) (fun j' hj => u2_ne hj) (fun _ _ => rfl) (fun _ _ => rfl) rfl rfl rfl hdec (fun H1 l1 r1 s1 => goH _ _ _ _ _ _ h hc13 rfl (wf_same hwf hc13 rfl rfl rfl) (vs_t (vs_t hst)) r1 s1)
      · rename_i hk
        replace h := pL_of h
        obtain ⟨x, r', he, h⟩ := h
        cases he
        have hty : tyz c' a = .long := by
          rw [hk] at hkt; revert hkt; cases tyz c' a <;> simp [ktb]
        exact z_put (P := sL (hp hs c') j a x) hx hb hown hts hKK hR hwf.1 hv hF hfin hA hS (by rw [hty]; rfl) (by rw [hty]; rfl) rfl (sL_fv hk) (fun _ _ => rfl) (fun j' hj => u2_ne hj) (fun _ _ => rfl) rfl rfl rfl hdec (fun H1 l1 r1 s1 => goH _ _ _ _ _ _ h hc13 rfl (wf_same hwf hc13 rfl rfl rfl) (vs_t (vs_t hst)) r1 s1)
      · rename_i hk
        replace h := pA_of h
        obtain ⟨o, r', he, h⟩ := h
        cases he
        obtain ⟨N, hty⟩ : ∃ N, tyz c' a = .object N := by
          rw [hk] at hkt; revert hkt; cases tyz c' a <;> simp [ktb]
        match o, h, hst with
        | none, h, hst =>
          refine z_put (P := sO (hp hs c') j a none) hx hb hown hts hKK hR hwf.1 hv hF hfin hA hS (by rw [hty]; rfl) (by rw [hty]; rfl) rfl (sO_fv hk) (fun _ _ => rfl) (fun _ _ => rfl) (fun j' hj => u2_ne hj) rfl rfl rfl hdec (fun H1 l1 r1 s1 => goH _ _ _ _ _ _ h hc13 rfl (wf_set hwf hc13 rfl (fun j' a' h1 h2 hk' k hq => ?_) (fun j' a' i h1 h2 hk' k hq => (hwf.2 c' j' hc13 h1 a' h2).2.1 hk' i k hq)) (vs_t (vs_t hst)) r1 s1)
          by_cases e1 : a' = a
          · by_cases e2 : j' = j
            · subst e1; subst e2; simp [gO, sO, u2] at hq
            · exact (hwf.2 c' j' hc13 h1 a' h2).1 hk' k (by rw [← hq]; exact (congrFun (u2_ne e2) a').symm)
          · exact (hwf.2 c' j' hc13 h1 a' h2).1 hk' k (by rw [← hq]; simp [gO, sO, u2, e1])
        | some (c2, k2, a2), h, hst =>
          replace h := cond_of h
          obtain ⟨hb2, h⟩ := h
          obtain ⟨g1, g2⟩ := ck2 hb2
          have g1 := Nat.eq_of_beq_eq_true g1; have g2 := Nat.eq_of_beq_eq_true g2
          subst g1; subst g2
          have hv2 : vc hs (ly c' a).2 k2 0 := vs_h hst
          refine z_put (P := sO (hp hs c') j a (some k2)) hx hb hown hts hKK hR hwf.1 hv hF hfin hA hS (by rw [hty]; rfl) (by rw [hty]; rfl) rfl (sO_fv hk) (fun _ _ => rfl) (fun _ _ => rfl) (fun j' hj => u2_ne hj) rfl rfl rfl hdec (fun H1 l1 r1 s1 => goH _ _ _ _ _ _ h hc13 rfl (wf_set hwf hc13 rfl (fun j' a' h1 h2 hk' k hq => ?_) (fun j' a' i h1 h2 hk' k hq => (hwf.2 c' j' hc13 h1 a' h2).2.1 hk' i k hq)) (vs_t (vs_t hst)) r1 s1)
          by_cases e1 : a' = a
          · by_cases e2 : j' = j
            · subst e1; subst e2
              have : some k2 = some k := by rw [← hq]; simp [gO, sO, u2]
              cases this
              exact hv2
            · exact (hwf.2 c' j' hc13 h1 a' h2).1 hk' k (by rw [← hq]; exact (congrFun (u2_ne e2) a').symm)
          · exact (hwf.2 c' j' hc13 h1 a' h2).1 hk' k (by rw [← hq]; simp [gO, sO, u2, e1])
      · exact h.elim
    | [], h, _ => exact False.elim h
    | [_], h, _ => exact False.elim h
    | _ :: .inl _ :: _, h, _ => exact False.elim h
    | _ :: .inr (.inl _) :: _, h, _ => exact False.elim h
    | _ :: .inr (.inr none) :: _, h, _ => exact False.elim h
  | iaload =>
    have hn := Nat.eq_of_beq_eq_true (show Nat.beq nx (pc + 1) = true from hck)
    subst hn
    rw [hsn] at hdec
    replace h := pX_of h
    obtain ⟨i, c', j, a, r, rfl, h⟩ := h
    replace h := cond_of h
    obtain ⟨hk, h⟩ := h
    exact z_iald hx hb hKK hR (vs_h (vs_t hst)) (Nat.eq_of_beq_eq_true hk) h.1 hdec (go _ _ h.2 (vs_i (vs_t (vs_t hst))))
  | laload =>
    have hn := Nat.eq_of_beq_eq_true (show Nat.beq nx (pc + 1) = true from hck)
    subst hn
    rw [hsn] at hdec
    replace h := pX_of h
    obtain ⟨i, c', j, a, r, rfl, h⟩ := h
    replace h := cond_of h
    obtain ⟨hk, h⟩ := h
    exact z_lald hx hb hKK hR (vs_h (vs_t hst)) (Nat.eq_of_beq_eq_true hk) h.1 hdec (go _ _ h.2 (vs_l (vs_t (vs_t hst))))
  | baload =>
    have hn := Nat.eq_of_beq_eq_true (show Nat.beq nx (pc + 1) = true from hck)
    subst hn
    rw [hsn] at hdec
    replace h := pX_of h
    obtain ⟨i, c', j, a, r, rfl, h⟩ := h
    replace h := cond_of h
    obtain ⟨hk, h⟩ := h
    exact z_bald hx hb hKK hR (vs_h (vs_t hst)) ((Bool.or_eq_true _ _ ▸ hk : _ ∨ _).imp Nat.eq_of_beq_eq_true Nat.eq_of_beq_eq_true) h.1 hdec (go _ _ h.2 (vs_i (vs_t (vs_t hst))))
  | aaload =>
    have hn := Nat.eq_of_beq_eq_true (show Nat.beq nx (pc + 1) = true from hck)
    subst hn
    rw [hsn] at hdec
    replace h := pX_of h
    obtain ⟨i, c', j, a, r, rfl, h⟩ := h
    replace h := cond_of h
    obtain ⟨hk, h⟩ := h
    have hk := Nat.eq_of_beq_eq_true hk
    have hv : vc hs c' j (a + 1) := vs_h (vs_t hst)
    refine z_aald hx hb hKK hR hv hk h.1 hdec ?_
    rcases oM_of h.2 with ⟨e, h2⟩ | ⟨k, e, h2⟩
    · rw [e]; exact go _ _ h2 (vs_c trivial (vs_t (vs_t hst)))
    · rw [e]; exact go _ _ h2 (vs_c ((hwf.2 c' j hv.1.1 hv.1.2 a hv.2.1).2.1 hk _ k e) (vs_t (vs_t hst)))
  | iastore =>
    have hn := Nat.eq_of_beq_eq_true (show Nat.beq nx (pc + 1) = true from hck)
    subst hn
    rw [hsn] at hdec
    replace h := pI_of h
    obtain ⟨x, r0, rfl, h⟩ := h
    replace h := pX_of h
    obtain ⟨i, c', j, a, r, rfl, h⟩ := h
    replace h := cond_of h
    obtain ⟨hk, h⟩ := h
    have hv : vc hs c' j (a + 1) := vs_h (vs_t (vs_t hst))
    exact z_iast hx hb hKK hR hwf.1 hv (Nat.eq_of_beq_eq_true hk) h.1 (zA_of hext hv) hS hdec (fun H1 l1 r1 s1 => goH _ _ _ _ _ _ h.2 hv.1.1 rfl (wf_same hwf hv.1.1 rfl rfl rfl) (vs_t (vs_t (vs_t hst))) r1 s1)
  | lastore =>
    have hn := Nat.eq_of_beq_eq_true (show Nat.beq nx (pc + 1) = true from hck)
    subst hn
    rw [hsn] at hdec
    replace h := pL_of h
    obtain ⟨x, r0, rfl, h⟩ := h
    replace h := pX_of h
    obtain ⟨i, c', j, a, r, rfl, h⟩ := h
    replace h := cond_of h
    obtain ⟨hk, h⟩ := h
    have hv : vc hs c' j (a + 1) := vs_h (vs_t (vs_t hst))
    exact z_last hx hb hKK hR hwf.1 hv (Nat.eq_of_beq_eq_true hk) h.1 (zA_of hext hv) hS hdec (fun H1 l1 r1 s1 => goH _ _ _ _ _ _ h.2 hv.1.1 rfl (wf_same hwf hv.1.1 rfl rfl rfl) (vs_t (vs_t (vs_t hst))) r1 s1)
  | bastore =>
    have hn := Nat.eq_of_beq_eq_true (show Nat.beq nx (pc + 1) = true from hck)
    subst hn
    rw [hsn] at hdec
    replace h := pI_of h
    obtain ⟨x, r0, rfl, h⟩ := h
    replace h := pX_of h
    obtain ⟨i, c', j, a, r, rfl, h⟩ := h
    have hv : vc hs c' j (a + 1) := vs_h (vs_t (vs_t hst))
    cases h5 : Nat.beq (ly c' a).1 5 with
    | true =>
      rw [h5] at h
      exact z_bast hx hb hKK hR hwf.1 hv (Nat.eq_of_beq_eq_true h5) h.1 (zA_of hext hv) hS hdec (fun H1 l1 r1 s1 => goH _ _ _ _ _ _ h.2 hv.1.1 rfl (wf_same hwf hv.1.1 rfl rfl rfl) (vs_t (vs_t (vs_t hst))) r1 s1)
    | false =>
      rw [h5] at h
      replace h := cond_of h
      obtain ⟨hk, h⟩ := h
      exact z_zast hx hb hKK hR hwf.1 hv (Nat.eq_of_beq_eq_true hk) h.1 h.2.1 (zA_of hext hv) hS hdec (fun H1 l1 r1 s1 => goH _ _ _ _ _ _ h.2.2 hv.1.1 rfl (wf_same hwf hv.1.1 rfl rfl rfl) (vs_t (vs_t (vs_t hst))) r1 s1)
  | aastore =>
    have hn := Nat.eq_of_beq_eq_true (show Nat.beq nx (pc + 1) = true from hck)
    subst hn
    rw [hsn] at hdec
    replace h := pA_of h
    obtain ⟨o, r0, rfl, h⟩ := h
    replace h := pX_of h
    obtain ⟨i, c', j, a, r, rfl, h⟩ := h
    replace h := cond_of h
    obtain ⟨hk, h⟩ := h
    have hk := Nat.eq_of_beq_eq_true hk
    have hv : vc hs c' j (a + 1) := vs_h (vs_t (vs_t hst))
    match o, h, hst with
    | none, h, hst =>
      refine z_aastN hx hb hKK hR hwf.1 hv hk h.1 (zA_of hext hv) hS hdec (fun H1 l1 r1 s1 => goH _ _ _ _ _ _ h.2 hv.1.1 rfl (wf_set hwf hv.1.1 rfl (fun j' a' h1 h2 hk' k hq => (hwf.2 c' j' hv.1.1 h1 a' h2).1 hk' k hq) (fun j' a' i' h1 h2 hk' k hq => ?_)) (vs_t (vs_t (vs_t hst))) r1 s1)
      refine (hwf.2 c' j' hv.1.1 h1 a' h2).2.1 hk' i' k ?_
      by_cases e : j' = j ∧ a' = a
      · obtain ⟨rfl, rfl⟩ := e
        by_cases ei : i' = i.toNatClampNeg
        · subst ei; simp [gR, sR, u3] at hq
        · rw [← hq]; simp [gR, sR, u3, ei]
      · rw [← hq]; exact (congrFun (u3_ne e) i').symm
    | some (c2, k2, a2), h, hst =>
      obtain ⟨h0, h⟩ := h
      replace h := cond_of h
      obtain ⟨hb2, h⟩ := h
      obtain ⟨g1, g2⟩ := ck2 hb2
      have g1 := Nat.eq_of_beq_eq_true g1; have g2 := Nat.eq_of_beq_eq_true g2
      subst g1; subst g2
      have hv2 : vc hs ((ly c' a).2 % 100) k2 0 := vs_h hst
      refine z_aast hx hb hKK hR hwf.1 hv hk hv2 h0 (zA_of hext hv) hS hdec (fun H1 l1 r1 s1 => goH _ _ _ _ _ _ h hv.1.1 rfl (wf_set hwf hv.1.1 rfl (fun j' a' h1 h2 hk' k hq => (hwf.2 c' j' hv.1.1 h1 a' h2).1 hk' k hq) (fun j' a' i' h1 h2 hk' k hq => ?_)) (vs_t (vs_t (vs_t hst))) r1 s1)
      by_cases e : j' = j ∧ a' = a
      · obtain ⟨rfl, rfl⟩ := e
        by_cases ei : i' = i.toNatClampNeg
        · have : some k2 = some k := by rw [← hq]; simp [gR, sR, u3, ei]
          cases this
          exact hv2
        · exact (hwf.2 c' j' hv.1.1 h1 a' h2).2.1 hk' i' k (by rw [← hq]; simp [gR, sR, u3, ei])
      · exact (hwf.2 c' j' hv.1.1 h1 a' h2).2.1 hk' i' k (by rw [← hq]; exact (congrFun (u3_ne e) i').symm)
  | arraylength =>
    have hn := Nat.eq_of_beq_eq_true (show Nat.beq nx (pc + 1) = true from hck)
    subst hn
    rw [hsn] at hdec
    replace h := pR_of h
    obtain ⟨c', j, a, r, rfl, h⟩ := h
    match a, h, hst with
    | 0, h, _ => exact False.elim h
    | a + 1, h, hst =>
      replace h := cond_of h
      obtain ⟨hk, h⟩ := h
      simp only [Bool.or_eq_true] at hk
      refine z_alen hx hb hKK hR (vs_h hst) ?_ hdec (go _ _ h (vs_i (vs_t hst)))
      rcases hk with ((hk | hk) | hk) | hk
      · exact Or.inl (Nat.eq_of_beq_eq_true hk)
      · exact Or.inr (Or.inl (Nat.eq_of_beq_eq_true hk))
      · exact Or.inr (Or.inr (Or.inl (Nat.eq_of_beq_eq_true hk)))
      · exact Or.inr (Or.inr (Or.inr (Nat.eq_of_beq_eq_true hk)))
  | goto o =>
    obtain ⟨hk1, hk0⟩ := ck2 hck
    clear hck
    have hn := Nat.eq_of_beq_eq_true (show Nat.beq nx (pc + 3) = true from hk0)
    subst hn
    rw [hsn] at hdec
    exact lv_goto hx hb hdec (of_decide_eq_true hk1) (go _ _ h hst)
  | ifCond cd o =>
    obtain ⟨hk1, hk0⟩ := ck2 hck
    clear hck
    have hn := Nat.eq_of_beq_eq_true (show Nat.beq nx (pc + 3) = true from hk1)
    subst hn
    rw [hsn] at hdec
    have hck := hk0
    have htg := of_decide_eq_true (show decide ((pc : Int) + o = (tg : Int)) = true from hck)
    clear hck hk0 hk1
    replace h := pI_of h
    obtain ⟨x, r, rfl, h⟩ := h
    cases cd
    case eq => exact lv_if_eq hx hb hdec htg (fun q => go _ _ (h.1 q) (vs_t hst)) (fun q => go _ _ (h.2 q) (vs_t hst))
    case ne => exact lv_if_ne hx hb hdec htg (fun q => go _ _ (h.1 q) (vs_t hst)) (fun q => go _ _ (h.2 q) (vs_t hst))
    case lt => exact lv_if_lt hx hb hdec htg (fun q => go _ _ (h.1 q) (vs_t hst)) (fun q => go _ _ (h.2 q) (vs_t hst))
    case ge => exact lv_if_ge hx hb hdec htg (fun q => go _ _ (h.1 q) (vs_t hst)) (fun q => go _ _ (h.2 q) (vs_t hst))
    case gt => exact lv_if_gt hx hb hdec htg (fun q => go _ _ (h.1 q) (vs_t hst)) (fun q => go _ _ (h.2 q) (vs_t hst))
    case le => exact lv_if_le hx hb hdec htg (fun q => go _ _ (h.1 q) (vs_t hst)) (fun q => go _ _ (h.2 q) (vs_t hst))
  | if_icmp cd o =>
    obtain ⟨hk1, hk0⟩ := ck2 hck
    clear hck
    have hn := Nat.eq_of_beq_eq_true (show Nat.beq nx (pc + 3) = true from hk1)
    subst hn
    rw [hsn] at hdec
    have hck := hk0
    have htg := of_decide_eq_true (show decide ((pc : Int) + o = (tg : Int)) = true from hck)
    clear hck hk0 hk1
    replace h := bI_of h
    obtain ⟨x, y, r, rfl, h⟩ := h
    have hst := vs_t (vs_t hst)
    cases cd
    case eq => exact lv_icmp_eq hx hb hdec htg (fun q => go _ _ (h.1 q) hst) (fun q => go _ _ (h.2 q) hst)
    case ne => exact lv_icmp_ne hx hb hdec htg (fun q => go _ _ (h.1 q) hst) (fun q => go _ _ (h.2 q) hst)
    case lt => exact lv_icmp_lt hx hb hdec htg (fun q => go _ _ (h.1 q) hst) (fun q => go _ _ (h.2 q) hst)
    case ge => exact lv_icmp_ge hx hb hdec htg (fun q => go _ _ (h.1 q) hst) (fun q => go _ _ (h.2 q) hst)
    case gt => exact lv_icmp_gt hx hb hdec htg (fun q => go _ _ (h.1 q) hst) (fun q => go _ _ (h.2 q) hst)
    case le => exact lv_icmp_le hx hb hdec htg (fun q => go _ _ (h.1 q) hst) (fun q => go _ _ (h.2 q) hst)
  | ifnull o =>
    obtain ⟨hk1, hk0⟩ := ck2 hck
    clear hck
    have hn := Nat.eq_of_beq_eq_true (show Nat.beq nx (pc + 3) = true from hk1)
    subst hn
    rw [hsn] at hdec
    have hck := hk0
    have htg := of_decide_eq_true (show decide ((pc : Int) + o = (tg : Int)) = true from hck)
    clear hck hk0 hk1
    replace h := pA_of h
    obtain ⟨v, r, rfl, h⟩ := h
    match v, h, hst with
    | none, h, hst => exact lv_ifnullN hx hb hdec htg (go _ _ h (vs_t hst))
    | some (c', j, a), h, hst => exact lv_ifnull hx hb hdec (go _ _ h (vs_t hst))
  | ifnonnull o =>
    obtain ⟨hk1, hk0⟩ := ck2 hck
    clear hck
    have hn := Nat.eq_of_beq_eq_true (show Nat.beq nx (pc + 3) = true from hk1)
    subst hn
    rw [hsn] at hdec
    have hck := hk0
    have htg := of_decide_eq_true (show decide ((pc : Int) + o = (tg : Int)) = true from hck)
    clear hck hk0 hk1
    replace h := pA_of h
    obtain ⟨v, r, rfl, h⟩ := h
    match v, h, hst with
    | none, h, hst => exact lv_ifnonnullN hx hb hdec (go _ _ h (vs_t hst))
    | some (c', j, a), h, hst => exact lv_ifnonnull hx hb hdec htg (go _ _ h (vs_t hst))
  | tableswitch df lo hi os =>
    obtain ⟨hk1, hck⟩ := ck2 hck
    obtain ⟨hk2, hck⟩ := ck2 hck
    have hk1 := of_decide_eq_true hk1; have hk2 := of_decide_eq_true hk2
    replace h := pI_of h
    obtain ⟨x, r, rfl, h⟩ := h
    by_cases hlo : x.toInt < lo
    · refine lv_tableOut hx hb hdec (Or.inl hlo) hk1 (go _ _ (swK_out h (fun v t hm e => ?_)) (vs_t hst))
      have := ckTS_ge hck v t hm
      rw [← e] at this
      omega
    · by_cases hhi : hi < x.toInt
      · refine lv_tableOut hx hb hdec (Or.inr hhi) hk1 (go _ _ (swK_out h (fun v t hm e => ?_)) (vs_t hst))
        have := ckTS_lt hck v t hm
        rw [← e] at this
        simp only [Array.length_toList] at this
        omega
      · obtain ⟨o', t, ho, ht, hk⟩ := ckTS_at hck h (by omega) (by simp only [Array.length_toList]; omega)
        exact lv_tableIn hx hb hdec hlo hhi (by simpa using ho) ht (go _ _ hk (vs_t hst))
  | lookupswitch df ps =>
    obtain ⟨hk1, hck⟩ := ck2 hck
    obtain ⟨hk2, hck⟩ := ck2 hck
    have hk1 := of_decide_eq_true hk1
    replace h := pI_of h
    obtain ⟨x, r, rfl, h⟩ := h
    obtain ⟨t, ht, hk⟩ := ckLS_at hck hk1 h
    exact lv_lookup hx hb hdec hk2 rfl ht (go _ _ hk (vs_t hst))
  | ireturn =>
    have hn := Nat.eq_of_beq_eq_true (show Nat.beq nx (pc + 1) = true from hck)
    subst hn
    rw [hsn] at hdec
    replace h := q1I_of h
    obtain ⟨x, rfl, h⟩ := h
    have fin : Q (some (vI x)) hs → ∀ t : State, t.heap = H → s.WarmedH t.vm → zQ D aC ρ0 hs0 sz Q args s (.returned (some (.int x))) t :=
      fun hq t ht _ => ⟨some (vI x), hs, ρ, rfl, hq, ht ▸ hR, hwf, fun v hv => by cases hv; trivial, hext, hS.F ht⟩
    refine W.widen hz.1 hz.2 ?_
    rcases rtT_of h with ⟨hr, h⟩ | ⟨hr, hb2, h⟩
    · exact W.iret hx hb (hret.trans hr) (fin h) (fun q hq => hS.2.2 q hq) hdec hlk
    · exact W.zret hx hb (hret.trans hr) (nar_b hb2) (fin h) (fun q hq => hS.2.2 q hq) hdec hlk
  | lreturn =>
    obtain ⟨hk1, hk0⟩ := ck2 hck
    clear hck
    have hn := Nat.eq_of_beq_eq_true (show Nat.beq nx (pc + 1) = true from hk1)
    subst hn
    rw [hsn] at hdec
    have hck := hk0
    have hr := of_decide_eq_true (show decide (M.2.2.2.2.2.1 = some .long) = true from hck)
    replace h := q1L_of h
    obtain ⟨x, rfl, h⟩ := h
    refine W.widen hz.1 hz.2 ?_
    exact W.lret hx hb (hret.trans hr) (fun t ht _ => ⟨some (vL x), hs, ρ, rfl, h, ht ▸ hR, hwf, fun v hv => by cases hv; trivial, hext, hS.F ht⟩) (fun q hq => hS.2.2 q hq) hdec hlk
  | areturn =>
    obtain ⟨hk1, hk0⟩ := ck2 hck
    clear hck
    have hn := Nat.eq_of_beq_eq_true (show Nat.beq nx (pc + 1) = true from hk1)
    subst hn
    rw [hsn] at hdec
    have hck := hk0
    obtain ⟨N, hr⟩ : ∃ N, M.2.2.2.2.2.1 = some (.object N) := by
      replace hck : (match M.2.2.2.2.2.1 with
        | some (.object _) => true
        | _ => false) = true := hck
      split at hck
      · rename_i N hr; exact ⟨N, hr⟩
      · cases hck
    replace h := q1A_of h
    obtain ⟨o, rfl, h⟩ := h
    refine W.widen hz.1 hz.2 ?_
    refine W.aret (v := zc ρ (.inr (.inr o))) hx hb (hret.trans hr) (Or.inl ⟨N, rfl⟩) ?_ (fun t ht _ => ⟨some (.inr (.inr o)), hs, ρ, rfl, h, ht ▸ hR, hwf, fun v hv => by cases hv; exact vs_h hst, hext, hS.F ht⟩) (fun q hq => hS.2.2 q hq) hdec hlk
    match o with
    | none => exact Or.inl rfl
    | some (c', j, a) => exact Or.inr ⟨_, rfl⟩
  | return_ =>
    obtain ⟨hk1, hk0⟩ := ck2 hck
    clear hck
    have hn := Nat.eq_of_beq_eq_true (show Nat.beq nx (pc + 1) = true from hk1)
    subst hn
    rw [hsn] at hdec
    have hck := hk0
    have hr := of_decide_eq_true (show decide (M.2.2.2.2.2.1 = none) = true from hck)
    replace h := q0_of h
    obtain ⟨rfl, h⟩ := h
    refine W.widen hz.1 hz.2 ?_
    exact W.vret hx hb (hret.trans hr) (fun t ht _ => ⟨none, hs, ρ, rfl, h, ht ▸ hR, hwf, (fun v hv => nomatch hv), hext, hS.F ht⟩) (fun q hq => hS.2.2 q hq) hdec hlk
  | invokevirtual x =>
    obtain ⟨hk1, hk0⟩ := ck2 hck
    clear hck
    have hn := Nat.eq_of_beq_eq_true (show Nat.beq nx (pc + 3) = true from hk1)
    subst hn
    rw [hsn] at hdec
    have hck := hk0
    replace h := cN_of h
    obtain ⟨i, n, k, rfl, h⟩ := h
    cases d with
    | zero => exact False.elim h
    | succ d =>
      replace h := cond_of h
      obtain ⟨hb1, h⟩ := h
      obtain ⟨hb1, hrc⟩ := ck2 hb1
      obtain ⟨hle, hcat⟩ := ck2 hb1
      obtain ⟨hct, hck⟩ := ck2 (show (inCT M.2.2.2.2.2.2 x i && (inMV i n && Nat.beq (k / 1000) (mt i).2.2.2.2.2.2)) = true from hck)
      obtain ⟨hmv, hkc⟩ := ck2 hck
      exact call_v hC hz hwf hlv hst hR hl hext hS hdec (any_CT hct) (any_MV hmv) (Nat.le_of_ble_eq_true hle) (Nat.le_of_ble_eq_true hcat) (by rw [← Nat.eq_of_beq_eq_true hkc]; exact hrc) h (fun r h' hq => hK _ _ _ _ (rtK_of (hxs_of hq)))
  | invokestatic x =>
    obtain ⟨hk1, hk0⟩ := ck2 hck
    clear hck
    have hn := Nat.eq_of_beq_eq_true (show Nat.beq nx (pc + 3) = true from hk1)
    subst hn
    rw [hsn] at hdec
    have hck := hk0
    replace h := cN_of h
    obtain ⟨i, n, k, rfl, h⟩ := h
    have hck : (bif Nat.blt i 9000 then inCT M.2.2.2.2.2.2 x i && inMS i n else inSP M.2.2.2.2.2.2 x i) = true := hck
    cases hlt : Nat.blt i 9000 with
    | true =>
      rw [hlt] at h hck
      cases d with
      | zero => exact False.elim h
      | succ d =>
        replace h := cond_of h
        obtain ⟨hb1, h⟩ := h
        obtain ⟨hle, hcat⟩ := ck2 hb1
        obtain ⟨hct, hms⟩ := ck2 (show (inCT M.2.2.2.2.2.2 x i && inMS i n) = true from hck)
        exact call_s hC hz hwf hlv hst hR hl hext hS hdec (any_CT hct) (any_MS hms) (Nat.le_of_ble_eq_true hle) (Nat.le_of_ble_eq_true hcat) h (fun r h' hq => hK _ _ _ _ (rtK_of (hxs_of hq)))
    | false =>
      rw [hlt] at h hck
      replace h : spK i st hs (fun s h => bif Nat.ble (catS s) 8 then K (pc + 3) lv s h else False) := h
      exact call_sp hC hz hwf hlv hst hR hl hext hS hdec (any_SP hck) h (fun s' h' hq => hK _ _ _ _ (cond_of hq).2) (fun s' h' hq => Nat.le_of_ble_eq_true (cond_of hq).1)
  | _ => exact False.elim h
