/-- the own words, told letter by letter -/
def TA (B : PS) : Nat → PS
  | 0 => B
  | k + 1 => if SB.getD k 0 = 32 then TA B k else sB (TA B k) 0 12 (k / 8) (gB (TA B k) 0 12 (k / 8) * 32 + (SB.getD k 0).toInt64 - 97 + 1)
def owF : Nat → Nat → Int64
  | 0, _ => 0
  | k + 1, j => if SB.getD k 0 = 32 then owF k j else if j = k / 8 then owF k j * 32 + (SB.getD k 0).toInt64 - 97 + 1 else owF k j
theorem TA_B {B : PS} (h : gB B 0 12 = fun _ => 0) : ∀ k j, gB (TA B k) 0 12 j = owF k j
  | 0, j => by show gB B 0 12 j = 0; rw [h]
  | k + 1, j => by
    unfold TA owF
    split
    · exact TA_B h k j
    · rw [gB_sB, if_pos rfl, if_pos rfl]
      by_cases c : j = k / 8
      · rw [if_pos c, if_pos c, TA_B h k (k / 8), c]
      · rw [if_neg c, if_neg c, TA_B h k j]
theorem TA_fr (B : PS) : ∀ k, Fr [] [] [] [12] B (TA B k) ∧ gO (TA B k) = gO B ∧ gR (TA B k) = gR B ∧ gN (TA B k) = gN B
  | 0 => ⟨Fr.rf, rfl, rfl, rfl⟩
  | k + 1 => by
    have ih := TA_fr B k
    unfold TA
    split
    · exact ih
    · exact ⟨ih.1.sB (by simp), ih.2.1, ih.2.2.1, ih.2.2.2⟩
theorem owF_ok : ∀ i, i < 27 → owF 216 i = iL (p32 (OWN.getD i [])) := by
  have : ((List.range 27).all fun i => decide (owF 216 i = Int64.ofInt (p32 (OWN.getD i [])))) = true := by decide +kernel
  intro i hi
  exact of_decide_eq_true (List.all_eq_true.mp this i (List.mem_range.mpr hi))
theorem wf_TA {P0 B : PS} {R : List PS} (hw : wf (P0 :: B :: R)) : ∀ k, wf (P0 :: TA B k :: R)
  | 0 => hw
  | k + 1 => by
    have ih := wf_TA hw k
    unfold TA
    split
    · exact ih
    · exact wf_same (c := 1) ih (by omega) rfl rfl rfl
theorem cn_TA {P0 B : PS} {R : List PS} (k c' : Nat) : cn (P0 :: TA B k :: R) c' = cn (P0 :: B :: R) c' := by
  match c' with
  | 0 => rfl
  | 1 => exact (TA_fr B k).2.2.2
  | c' + 2 => rfl
theorem nI_d8 {k : Nat} (hk : k < 216) : nI k / 8 = nI (k / 8) := by
  rw [nI_iI, nI_iI, show (8 : Int32) = iI 8 from rfl, iI_div (by omega) (by omega) (by omega) (by omega)]
  refine congrArg iI ?_
  omega
theorem ti_1 {d : Nat} {P0 P1 : PS} {R : List PS} {QI : List PS → Prop} {b aK aV : Nat} {v9 : Value} (hw : wf (P0 :: P1 :: R)) (h1 : gN P1 = 0) (h : ∀ P1', OwC P1' → Fr [] [] [] [12] (nwO P1 fi_1 (fun _ => none)) P1' → QI (P0 :: P1' :: R)) : TriX mi_1 1 (d + 5) (sumC ops_1) (sumS 1 ops_1) (P0 :: P1 :: R) QI b aK aV v9 := by
  refine TriX_of (by decide +kernel) rfl rfl (by decide) rfl rfl (fun p l e s m below meth cd D aC ρ q0 ls hC hls hR hat hq hE hVR hb1 hb2 => ?_)
  have hl0 : ls[0]? = some (.val (.ref q0)) := lv_at hls 0 rfl
  have q0l : q0 < s.heap.size := hat.lt
  have c1 : cn (P0 :: P1 :: R) 1 = 0 := h1
  refine w_obj hC hl0 hls.1 (by decide +kernel) (idx := 3) (by decide +kernel) il_1 (by show 1 ≤ d + 5 + 1; omega) (by show 12 ≤ 64 * (d + 5 + 1); omega) ?_
  obtain ⟨hx, hb, hml, hown, hts, hKK, hAO, hret, hlk, hini⟩ := id hC
  refine w_ops (c := 1) (fO := fun _ => none) (A := iA ρ (P0 :: P1 :: R) s.heap.size q0) hx hb hown hts hKK (fun _ => hAO (show (1 : Nat) ≠ 3 by decide)) (by decide) hini hl0 (Or.inl rfl) ops_1 4 (fun _ => 0) (fun _ => false) s.heap [] 0 0 ok_1 oc_1 (Con.start hR hat rfl hq) va_S.rf (by show 0 + _ ≤ sumC ops_1; omega) (by show 0 + _ ≤ sumS _ ops_1; omega) (fun α' H' locs' hC' hS' => ?_)
  have fin := hC'.fin hw (by decide) (nwO_old _ _ _) (ckD_of od_1 rfl)
  have zsub := hC'.zs hw (by decide) (nwO_old _ _ _) (ckD_of od_1 rfl)
  have wf1 : wf (P0 :: nwO P1 fi_1 (fun _ => none) :: R) := wf_nwO (c := 1) (fI := fi_1) (fO := fun _ => none) hw (by decide) (fun a _ _ k hk => by cases hk) (no9 (by decide +kernel))
  rw [show pcE 4 ops_1 = 76 by decide +kernel, Nat.zero_add, Nat.zero_add]
  generalize hρ : rx ρ 1 (cn (P0 :: P1 :: R) 1) q0 α' = ρ1 at fin zsub
  have r0 : ρ1 1 0 0 = q0 := by rw [← hρ, c1]; exact rx_q
  have fin1 : RelH D aC ρ1 (P0 :: nwO P1 fi_1 (fun _ => none) :: R) H' := fin.1
  have fin2 : ext ρ (P0 :: P1 :: R) ρ1 (P0 :: nwO P1 fi_1 (fun _ => none) :: R) q0 := fin.2
  have zs : ∀ q, zA ρ1 (P0 :: nwO P1 fi_1 (fun _ => none) :: R) H'.size q → iA ρ (P0 :: P1 :: R) s.heap.size q0 q := zsub
  have nA : ∀ q, q < b → ¬ iA ρ (P0 :: P1 :: R) s.heap.size q0 q := fun q hq g => by
    rcases g with g | ⟨c', j, a, hv, g⟩ | g
    · omega
    · have := hb2 c' j a hv; omega
    · omega
  have kept : ∀ (H : Heap) (lc : List Loc), va_S (iA ρ (P0 :: P1 :: R) s.heap.size q0) s.heap H lc → StE b aK aV v9 s H := fun H lc hS => hE.kept (fun a ha => hS.2.1 a (by omega) (nA a ha))
  generalize hBB : nwO P1 fi_1 (fun _ => none) = B at *
  have nB : gN B = 1 := by rw [← hBB]; show P1.1 + 1 = 1; have : P1.1 = 0 := h1; omega
  have vB : ∀ k, vc (P0 :: TA B k :: R) 1 0 0 ∧ vc (P0 :: TA B k :: R) 1 0 13 := fun k => by
    have : cn (P0 :: TA B k :: R) 1 = 1 := (TA_fr B k).2.2.2.trans nB
    exact ⟨⟨by decide, by rw [this]; decide⟩, ⟨⟨by decide, by rw [this]; decide⟩, by decide, rfl⟩⟩
  have hA13 : iA ρ (P0 :: P1 :: R) s.heap.size q0 (ρ1 1 0 13) := zs _ (Or.inl ⟨1, 0, 13, (vB 0).2, rfl⟩)
  have key : ∀ (n k : Nat) (H : Heap) (lc : List Loc) (ls : Array Slot) (x2 : Option Int32), k + n = 216 → RelH D aC ρ1 (P0 :: TA B k :: R) H → va_S (iA ρ (P0 :: P1 :: R) s.heap.size q0) s.heap H lc → lv_has ls 3 [(1, .int (nI k)), (0, .ref q0)] → W p l e (rmd (d + 5) (sumC ops_1) (sumS 1 ops_1)) s m #[Value.ref q0] below meth cd H lc (sumC ops_1) (sumS 1 ops_1) (MQ below (iQ D aC ρ (P0 :: P1 :: R) s.heap.size 1 q0 QI) #[Value.ref q0] s (sumC ops_1) (sumS 1 ops_1) (iA ρ (P0 :: P1 :: R) s.heap.size q0)) (F0 m 78 ls []) := by
    intro n
    induction n with
    | zero =>
      intro k H lc ls x2 hk hR hS hl
      have k216 : k = 216 := by omega
      have le : (216 : Int32) ≤ nI k := by rw [k216]; decide
      refine lv_iload_n hx hb dt_78 rfl (lv_at hl 0 rfl) ?_
      refine va_ldcS hx hb hown hVR dt_79 ?_
      refine w_sv (M := mjLen) (d := d + 1) (k := 0) (own := 1) (As := []) (rest := [.int (nI k)]) hx hb hml hown hts hl.1 (kept H lc hS) dt_81 (wGW_ok (i := 149) (by decide +kernel)) sj_len rfl (wGW_ok (i := 150) (by decide +kernel)) (wGW_ok (i := 151) (by decide +kernel)) rfl (by show 1 ≤ 8; omega) (by show d + 1 + 2 ≤ d + 5 + 1; omega) (by show 64 * (d + 1 + 2) ≤ 64 * (d + 5 + 1); omega) ⟨Nat.le_refl _, Nat.le_refl _⟩ s_length ?_
      refine lv_icmp_ge (tgt := 144) hx hb dt_84 (by decide) (fun _ => ?_) (fun g => absurd le g)
      have fr := TA_fr B k
      have ow : OwC (TA B k) := fun i hi => by
        have e1 := TA_B (B := B) (by rw [← hBB, ← h1]; exact nw_B 12) k i
        rw [k216] at e1 ⊢
        exact e1.trans (owF_ok i hi)
      exact W.vret hx hb hret (fun t ht _ => ⟨_, ρ1, rfl, h (TA B k) ow fr.1, wf_TA wf1 k, by rw [ht]; exact hR, ext_cn fin2 (cn_TA k), by rw [c1]; exact r0, hS.F ht⟩) hS.2.2 dt_144 hlk
    | succ n ih =>
      intro k H lc ls x2 hk hR hS hl
      have hk2 : k < 216 := by omega
      have hm : SB.getD k 0 ∈ SB := by
        rw [List.getD_eq_getElem?_getD, List.getElem?_eq_getElem (show k < SB.length from hk2)]
        exact List.getElem_mem _
      have nle : ¬ (216 : Int32) ≤ nI k := nI_ge (b := 216) hk2 (by omega)
      refine lv_iload_n hx hb dt_78 rfl (lv_at hl 0 rfl) ?_
      refine va_ldcS hx hb hown hVR dt_79 ?_
      refine w_sv (M := mjLen) (d := d + 1) (k := 0) (own := 1) (As := []) (rest := [.int (nI k)]) hx hb hml hown hts hl.1 (kept H lc hS) dt_81 (wGW_ok (i := 149) (by decide +kernel)) sj_len rfl (wGW_ok (i := 150) (by decide +kernel)) (wGW_ok (i := 151) (by decide +kernel)) rfl (by show 1 ≤ 8; omega) (by show d + 1 + 2 ≤ d + 5 + 1; omega) (by show 64 * (d + 1 + 2) ≤ 64 * (d + 5 + 1); omega) ⟨Nat.le_refl _, Nat.le_refl _⟩ s_length ?_
      refine lv_icmp_ge (tgt := 144) hx hb dt_84 (by decide) (fun g => absurd g nle) (fun _ => ?_)
      refine lv_iload_n hx hb dt_87 rfl (lv_at hl 0 rfl) ?_
      refine lv_sipush (v := 216) hx hb dt_88 (by decide) ?_
      refine lv_icmp_ge (tgt := 144) hx hb dt_91 (by decide) (fun g => absurd g nle) (fun _ => ?_)
      refine va_ldcS hx hb hown hVR dt_94 ?_
      refine lv_iload_n hx hb dt_96 rfl (lv_at hl 0 rfl) ?_
      refine w_sv (M := mjChr) (d := d + 3) (k := 1) (own := 1) (As := [.int (nI k)]) (rest := []) hx hb hml hown hts hl.1 (kept H lc hS) dt_97 (wGW_ok (i := 159) (by decide +kernel)) sj_chr rfl (wGW_ok (i := 160) (by decide +kernel)) (wGW_ok (i := 161) (by decide +kernel)) rfl (by show 0 ≤ 8; omega) (by show d + 3 + 2 ≤ d + 5 + 1; omega) (by show 64 * (d + 3 + 2) ≤ 64 * (d + 5 + 1); omega) ⟨Nat.le_refl _, Nat.le_refl _⟩ (s_chr hk2) ?_
      refine lv_istore_n (lv' := [(2, .int (SB.getD k 0)), (1, .int (nI k)), (0, .ref q0)]) hx hb dt_100 rfl hl (by decide) rfl (fun ls hl => ?_)
      refine lv_iload_n hx hb dt_101 rfl (lv_at hl 0 rfl) ?_
      refine lv_bipush (v := 32) hx hb dt_102 (by decide) ?_
      have goon : ∀ (H : Heap) (lc : List Loc), RelH D aC ρ1 (P0 :: TA B (k + 1) :: R) H → va_S (iA ρ (P0 :: P1 :: R) s.heap.size q0) s.heap H lc → W p l e (rmd (d + 5) (sumC ops_1) (sumS 1 ops_1)) s m #[Value.ref q0] below meth cd H lc (sumC ops_1) (sumS 1 ops_1) (MQ below (iQ D aC ρ (P0 :: P1 :: R) s.heap.size 1 q0 QI) #[Value.ref q0] s (sumC ops_1) (sumS 1 ops_1) (iA ρ (P0 :: P1 :: R) s.heap.size q0)) (F0 m 138 ls []) := fun H lc hR hS => by
        refine lv_iinc (v := nI (k + 1)) (lv' := [(1, .int (nI (k + 1))), (2, .int (SB.getD k 0)), (0, .ref q0)]) hx hb dt_138 hl (k := 1) rfl (by rw [nI_succ]; rfl) (by decide) rfl (fun ls hl => ?_)
        refine lv_goto (tgt := 78) hx hb dt_141 (by decide) ?_
        exact ih (k + 1) H lc ls x2 (by omega) hR hS (lv_sub hl [0, 2] rfl)
      refine lv_icmp_eq (tgt := 138) hx hb dt_104 (by decide) (fun g => ?_) (fun g => ?_)
      · refine goon H lc ?_ hS
        unfold TA; rw [if_pos g]; exact hR
      · have v8 : vp_in (nI (k / 8)) 27 := vp_in_nI (by omega) (by omega)
        have c8 : (nI (k / 8)).toNatClampNeg = k / 8 := nI_clamp (by omega)
        refine lv_aload_n (x := ρ1 1 0 0) hx hb dt_107 rfl (by rw [r0]; exact lv_at hl 2 rfl) ?_
        refine z_get (ci := 1) (j := 0) hx hb hown hts hKK hR (vB k).1 ft_51 dt_108 ?_
        rw [fv_a (by decide +kernel)]
        refine lv_iload_n hx hb dt_111 rfl (lv_at hl 1 rfl) ?_
        refine lv_bipush (v := 8) hx hb dt_112 (by decide) ?_
        refine lv_idiv hx hb dt_114 (by decide) ?_
        rw [nI_d8 hk2]
        refine lv_aload_n (x := ρ1 1 0 0) hx hb dt_115 rfl (by rw [r0]; exact lv_at hl 2 rfl) ?_
        refine z_get (ci := 1) (j := 0) hx hb hown hts hKK hR (vB k).1 ft_51 dt_116 ?_
        rw [fv_a (by decide +kernel)]
        refine lv_iload_n hx hb dt_119 rfl (lv_at hl 1 rfl) ?_
        refine lv_bipush (v := 8) hx hb dt_120 (by decide) ?_
        refine lv_idiv hx hb dt_122 (by decide) ?_
        rw [nI_d8 hk2]
        refine z_lald (ci := 1) (a := 12) (j := 0) hx hb hKK hR (vB k).2 rfl v8 dt_123 ?_
        rw [c8]
        refine lv_ldc2 hx hb hown (hts _ cj_66) dt_124 ?_
        refine lv_lmul hx hb dt_127 ?_
        refine lv_iload_n hx hb dt_128 rfl (lv_at hl 0 rfl) ?_
        refine lv_i2l hx hb dt_129 rfl ?_
        refine lv_ladd hx hb dt_130 ?_
        refine lv_ldc2 hx hb hown (hts _ cj_68) dt_131 ?_
        refine lv_lsub hx hb dt_134 ?_
        refine lv_lconst (v := 1) hx hb dt_135 (by decide) ?_
        refine lv_ladd hx hb dt_136 ?_
        refine z_last (ci := 1) (a := 12) (j := 0) hx hb hKK hR (wf_TA wf1 k).1 (vB k).2 rfl v8 hA13 hS dt_137 (fun H1 lc1 hR1 hS1 => ?_)
        rw [c8] at hR1
        refine goon H1 lc1 ?_ hS1
        unfold TA; rw [if_neg g]; exact hR1
  refine lv_iconst (v := 0) hx hb dt_76 (by decide) ?_
  refine lv_istore_n (lv' := [(1, .int 0), (0, .ref q0)]) hx hb dt_77 rfl hls (by decide) rfl (fun ls hl => ?_)
  exact key 216 0 H' locs' ls none (by omega) fin1 hS' hl
