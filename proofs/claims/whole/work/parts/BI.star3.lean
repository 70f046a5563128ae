theorem Href.up {c n a : Nat} {hs : List PS} {dn : Nat → Bool} {P : PS} (h : Href c n hs dn P) (hk : (ly c a).1 ≠ 7 ∧ (ly c a).1 ≠ 9) (h8 : (ly c a).1 = 8 → ∀ i, gR P n a i = none) : Href c n hs (updB dn a) P := fun b hb hd => by
  by_cases e : b = a
  · subst e
    exact ⟨fun k9 => absurd k9 hk.2, fun k7 => absurd k7 hk.1, h8⟩
  · refine h b hb ?_
    unfold updB at hd
    cases hn : Nat.beq b a with
    | true => exact absurd (Nat.eq_of_beq_eq_true hn) e
    | false => rw [hn] at hd; exact hd
theorem ext_mo {ρ ρ' : Nat → Nat → Nat → Nat} {hs hs' : List PS} {sz sz' : Nat} (h : ext ρ hs ρ' hs' sz) (hle : sz' ≤ sz) : ext ρ hs ρ' hs' sz' := ⟨h.1, h.2.1, fun c j a hv hj => Nat.le_trans hle (h.2.2 c j a hv hj)⟩
def fo_12 : Nat → Option Nat := fun a => if a = 11 then some 0 else if a = 12 then some 1 else if a = 13 then some 0 else if a = 14 then some 1 else none
abbrev pS0 : PS := nwO zPS (fun _ => 0) fo_12
abbrev pS1 : PS := sR pS0 0 8 0 (some 1)
abbrev pS2 : PS := sR pS1 0 8 1 (some 2)
abbrev pS3 : PS := sR pS2 0 8 2 (some 3)
abbrev pT1 : PS := nwO zPS fi_6 (fun _ => none)
abbrev pT2 : PS := nwO pT1 fi_6 (fun _ => none)
abbrev pT3 : PS := nwO pT2 fi_6 (fun _ => none)
abbrev pT4 : PS := nwO pT3 fi_6 (fun _ => none)
abbrev pRu : PS := nwO (nwO zPS fi_4 (fun _ => none)) fi_4 (fun _ => none)
abbrev hsF (T B St SE : PS) : List PS := [zPS, T, B, zPS, pRu, (nwO zPS fi_5 (fun _ => none)), St, (nwO zPS fi_7 (fun _ => none)), (nwO zPS fi_8 (fun _ => none)), (nwO zPS fi_9 (fun _ => none)), (nwO zPS fi_10 (fun _ => none)), (nwO zPS fi_11 (fun _ => none)), SE]
theorem wf_z13 : wf [zPS, zPS, zPS, zPS, zPS, zPS, zPS, zPS, zPS, zPS, zPS, zPS, zPS] := by
  refine ⟨rfl, fun c j hc hj => ?_⟩
  have : cn [zPS, zPS, zPS, zPS, zPS, zPS, zPS, zPS, zPS, zPS, zPS, zPS, zPS] c = 0 := by
    match c, hc with
    | 0, _ => rfl
    | 1, _ => rfl
    | 2, _ => rfl
    | 3, _ => rfl
    | 4, _ => rfl
    | 5, _ => rfl
    | 6, _ => rfl
    | 7, _ => rfl
    | 8, _ => rfl
    | 9, _ => rfl
    | 10, _ => rfl
    | 11, _ => rfl
    | 12, _ => rfl
  rw [this] at hj
  exact absurd hj (Nat.not_lt_zero j)
abbrev z13 : List PS := [zPS, zPS, zPS, zPS, zPS, zPS, zPS, zPS, zPS, zPS, zPS, zPS, zPS]
theorem FrB.gn {j : Nat} {P P' : PS} (h : FrB j P P') : gN P' = gN P := h.1.1
theorem ti_12 {d b aK aV : Nat} {v9 : Value} {QI : List PS → Prop} (h : ∀ T B1 B, OwC T → Fr [] [] [] [12] (nwO zPS fi_1 (fun _ => none)) T → SsC 0 [] B1 → TdC 0 plain B1 → FrB 0 (nwO zPS fi_2 (fun _ => none)) B1 → SsC 1 [] B → TdC 1 plain B → FrB 1 (nwO B1 fi_2 (fun _ => none)) B → QI (hsF T B pT4 pS3)) : TriX mi_12 12 (d + 8) 200 8000 z13 QI b aK aV v9 := by
  refine TriX_of (by decide +kernel) rfl rfl (by decide) rfl rfl (fun p l e s m below meth cd D aC ρ q0 ls hC hls hR hat hq hE hVR hb1 hb2 => ?_)
  have hl0 : ls[0]? = some (.val (.ref q0)) := lv_at hls 0 rfl
  have lsz : ls.size = 2 := hls.1
  have q0l : q0 < s.heap.size := hat.lt
  have z1 := sz_1
  have z10 := sz_10
  have z9 := sz_9
  have z11 := sz_11
  have z5 := sz_5
  have z8 := sz_8
  have z7 := sz_7
  have z6 := sz_6
  have z2 := sz_2
  have z4 := sz_4
  have n1 : nf 1 = 13 := rfl
  have n10 : nf 10 = 1 := rfl
  have n9 : nf 9 = 11 := rfl
  have n11 : nf 11 = 0 := rfl
  have n5 : nf 5 = 14 := rfl
  have n8 : nf 8 = 6 := rfl
  have n7 : nf 7 = 8 := rfl
  have n6 : nf 6 = 8 := rfl
  have n2 : nf 2 = 18 := rfl
  have n4 : nf 4 = 7 := rfl
  refine w_obj hC hl0 hls.1 ds_0 (idx := 1) ds_1 il_12 (by show 1 ≤ d + 8 + 1; omega) (by show 12 ≤ 64 * (d + 8 + 1); omega) ?_
  have S0 : SI D aC ρ z13 s q0 pS0 z13 ρ (fun _ => 0) (fun _ => false) s.heap [] := ⟨Con.start hR hat rfl hq, ext_rf, va_S.rf, wf_z13, fun a _ g => absurd g Bool.false_ne_true, rfl⟩
  refine w_fldX (pc := 4) (a := 0) (cc := 1) (n := 0) (d := d + 6) hC lsz hl0 S0 ds_4 ds_5 ds_8 ds_9 ds_12 cl12_1 ct12_1 ib_1 (by show d + 6 + 2 ≤ d + 8 + 1; omega) (by show 64 * (d + 6 + 2) ≤ 64 * (d + 8 + 1); omega) (by show _ ≤ 200; omega) (by show _ ≤ 8000; omega) hE hVR (by omega) hb2 (ti_1 (QI := fun x => ∃ T, OwC T ∧ Fr [] [] [] [12] (nwO zPS fi_1 (fun _ => none)) T ∧ x = [zPS, T, zPS, zPS, zPS, zPS, zPS, zPS, zPS, zPS, zPS, zPS, zPS]) wf_z13 rfl (fun T o f => ⟨T, o, f, rfl⟩)) rfl (fun hs' g => by obtain ⟨T, o, f, rfl⟩ := g; exact ⟨rfl, by show 0 < gN T; rw [f.1]; decide⟩) (by decide) (by decide) (Or.inl ⟨rfl, rfl, rfl⟩) (by decide +kernel) (by decide +kernel) (fun hs1 ρ1 H1 lc1 g1 S1 => ?_)
  obtain ⟨T, oT, fT, rfl⟩ := g1
  refine w_fld (pc := 15) (a := 1) (cc := 10) (n := 0) (d := d) hC lsz hl0 S1 ds_15 ds_16 ds_19 ds_20 ds_23 cl12_10 ct12_10 ib_10 (by show d + 2 ≤ d + 8 + 1; omega) (by show 64 * (d + 2) ≤ 64 * (d + 8 + 1); omega) (by show _ ≤ 200; omega) (by show _ ≤ 8000; omega) (ti_10 S1.2.2.2.1) rfl (fun hs' g => by rw [g]; exact ⟨rfl, (Nat.lt_succ_self 0 : 0 < 1)⟩) (by decide) (by decide) (Or.inl ⟨rfl, rfl, rfl⟩) (by decide +kernel) (by decide +kernel) (fun hs2 ρ2 H2 lc2 g2 S2 => ?_)
  replace g2 : hs2 = [zPS, T, zPS, zPS, zPS, zPS, zPS, zPS, zPS, zPS, (nwO zPS fi_10 (fun _ => none)), zPS, zPS] := g2
  subst g2
  refine w_fld (pc := 26) (a := 2) (cc := 9) (n := 0) (d := d) hC lsz hl0 S2 ds_26 ds_27 ds_30 ds_31 ds_34 cl12_9 ct12_9 ib_9 (by show d + 2 ≤ d + 8 + 1; omega) (by show 64 * (d + 2) ≤ 64 * (d + 8 + 1); omega) (by show _ ≤ 200; omega) (by show _ ≤ 8000; omega) (ti_9 S2.2.2.2.1) rfl (fun hs' g => by rw [g]; exact ⟨rfl, (Nat.lt_succ_self 0 : 0 < 1)⟩) (by decide) (by decide) (Or.inl ⟨rfl, rfl, rfl⟩) (by decide +kernel) (by decide +kernel) (fun hs3 ρ3 H3 lc3 g3 S3 => ?_)
  replace g3 : hs3 = [zPS, T, zPS, zPS, zPS, zPS, zPS, zPS, zPS, (nwO zPS fi_9 (fun _ => none)), (nwO zPS fi_10 (fun _ => none)), zPS, zPS] := g3
  subst g3
  refine w_fld (pc := 37) (a := 3) (cc := 11) (n := 0) (d := d) hC lsz hl0 S3 ds_37 ds_38 ds_41 ds_42 ds_45 cl12_11 ct12_11 ib_11 (by show d + 2 ≤ d + 8 + 1; omega) (by show 64 * (d + 2) ≤ 64 * (d + 8 + 1); omega) (by show _ ≤ 200; omega) (by show _ ≤ 8000; omega) (ti_11 S3.2.2.2.1) rfl (fun hs' g => by rw [g]; exact ⟨rfl, (Nat.lt_succ_self 0 : 0 < 1)⟩) (by decide) (by decide) (Or.inl ⟨rfl, rfl, rfl⟩) (by decide +kernel) (by decide +kernel) (fun hs4 ρ4 H4 lc4 g4 S4 => ?_)
  replace g4 : hs4 = [zPS, T, zPS, zPS, zPS, zPS, zPS, zPS, zPS, (nwO zPS fi_9 (fun _ => none)), (nwO zPS fi_10 (fun _ => none)), (nwO zPS fi_11 (fun _ => none)), zPS] := g4
  subst g4
  refine w_fld (pc := 48) (a := 4) (cc := 5) (n := 0) (d := d) hC lsz hl0 S4 ds_48 ds_49 ds_52 ds_53 ds_56 cl12_5 ct12_5 ib_5 (by show d + 2 ≤ d + 8 + 1; omega) (by show 64 * (d + 2) ≤ 64 * (d + 8 + 1); omega) (by show _ ≤ 200; omega) (by show _ ≤ 8000; omega) (ti_5 S4.2.2.2.1) rfl (fun hs' g => by rw [g]; exact ⟨rfl, (Nat.lt_succ_self 0 : 0 < 1)⟩) (by decide) (by decide) (Or.inl ⟨rfl, rfl, rfl⟩) (by decide +kernel) (by decide +kernel) (fun hs5 ρ5 H5 lc5 g5 S5 => ?_)
  replace g5 : hs5 = [zPS, T, zPS, zPS, zPS, (nwO zPS fi_5 (fun _ => none)), zPS, zPS, zPS, (nwO zPS fi_9 (fun _ => none)), (nwO zPS fi_10 (fun _ => none)), (nwO zPS fi_11 (fun _ => none)), zPS] := g5
  subst g5
  refine w_fld (pc := 59) (a := 5) (cc := 8) (n := 0) (d := d) hC lsz hl0 S5 ds_59 ds_60 ds_63 ds_64 ds_67 cl12_8 ct12_8 ib_8 (by show d + 2 ≤ d + 8 + 1; omega) (by show 64 * (d + 2) ≤ 64 * (d + 8 + 1); omega) (by show _ ≤ 200; omega) (by show _ ≤ 8000; omega) (ti_8 S5.2.2.2.1) rfl (fun hs' g => by rw [g]; exact ⟨rfl, (Nat.lt_succ_self 0 : 0 < 1)⟩) (by decide) (by decide) (Or.inl ⟨rfl, rfl, rfl⟩) (by decide +kernel) (by decide +kernel) (fun hs6 ρ6 H6 lc6 g6 S6 => ?_)
  replace g6 : hs6 = [zPS, T, zPS, zPS, zPS, (nwO zPS fi_5 (fun _ => none)), zPS, zPS, (nwO zPS fi_8 (fun _ => none)), (nwO zPS fi_9 (fun _ => none)), (nwO zPS fi_10 (fun _ => none)), (nwO zPS fi_11 (fun _ => none)), zPS] := g6
  subst g6
  refine w_fld (pc := 70) (a := 6) (cc := 7) (n := 0) (d := d) hC lsz hl0 S6 ds_70 ds_71 ds_74 ds_75 ds_78 cl12_7 ct12_7 ib_7 (by show d + 2 ≤ d + 8 + 1; omega) (by show 64 * (d + 2) ≤ 64 * (d + 8 + 1); omega) (by show _ ≤ 200; omega) (by show _ ≤ 8000; omega) (ti_7 S6.2.2.2.1) rfl (fun hs' g => by rw [g]; exact ⟨rfl, (Nat.lt_succ_self 0 : 0 < 1)⟩) (by decide) (by decide) (Or.inl ⟨rfl, rfl, rfl⟩) (by decide +kernel) (by decide +kernel) (fun hs7 ρ7 H7 lc7 g7 S7 => ?_)
  replace g7 : hs7 = [zPS, T, zPS, zPS, zPS, (nwO zPS fi_5 (fun _ => none)), zPS, (nwO zPS fi_7 (fun _ => none)), (nwO zPS fi_8 (fun _ => none)), (nwO zPS fi_9 (fun _ => none)), (nwO zPS fi_10 (fun _ => none)), (nwO zPS fi_11 (fun _ => none)), zPS] := g7
  subst g7
  refine w_fld (pc := 81) (a := 7) (cc := 6) (n := 0) (d := d) hC lsz hl0 S7 ds_81 ds_82 ds_85 ds_86 ds_89 cl12_6 ct12_6 ib_6 (by show d + 2 ≤ d + 8 + 1; omega) (by show 64 * (d + 2) ≤ 64 * (d + 8 + 1); omega) (by show _ ≤ 200; omega) (by show _ ≤ 8000; omega) (ti_6 S7.2.2.2.1) rfl (fun hs' g => by rw [g]; exact ⟨rfl, (Nat.lt_succ_self 0 : 0 < 1)⟩) (by decide) (by decide) (Or.inl ⟨rfl, rfl, rfl⟩) (by decide +kernel) (by decide +kernel) (fun hs8 ρ8 H8 lc8 g8 S8 => ?_)
  replace g8 : hs8 = [zPS, T, zPS, zPS, zPS, (nwO zPS fi_5 (fun _ => none)), (nwO zPS fi_6 (fun _ => none)), (nwO zPS fi_7 (fun _ => none)), (nwO zPS fi_8 (fun _ => none)), (nwO zPS fi_9 (fun _ => none)), (nwO zPS fi_10 (fun _ => none)), (nwO zPS fi_11 (fun _ => none)), zPS] := g8
  subst g8
  obtain ⟨hx, hb, hml, hown, hts, hKK, hAO, hret, hlk, hini⟩ := id hC
  have z12 : sumC ops_12 = 3 ∧ sumS 12 ops_12 = 23 := by decide +kernel
  refine w_ops (fI := fun _ => 0) (fO := fo_12) (c := 12) (own := 12) hx hb hown hts hKK (fun _ => hAO (show (12 : Nat) ≠ 3 by decide)) (by decide) hini hl0 (Or.inl rfl) ops_12 92 _ _ _ _ _ _ ok_12 oc_12 S8.1 S8.2.2.1 (by show _ ≤ 200; omega) (by show _ ≤ 8000; omega) (fun α9 H9 lc9 C9 s9 => ?_)
  rw [show pcE 92 ops_12 = 116 by decide +kernel]
  have S9 : SI D aC ρ z13 s q0 pS0 [zPS, T, zPS, zPS, zPS, (nwO zPS fi_5 (fun _ => none)), (nwO zPS fi_6 (fun _ => none)), (nwO zPS fi_7 (fun _ => none)), (nwO zPS fi_8 (fun _ => none)), (nwO zPS fi_9 (fun _ => none)), (nwO zPS fi_10 (fun _ => none)), (nwO zPS fi_11 (fun _ => none)), zPS] ρ8 α9 _ H9 lc9 := ⟨C9, S8.2.1, s9, S8.2.2.2.1, ((S8.2.2.2.2.1.up (a := 8) (by decide) (fun _ i => rfl)).up (a := 9) (by decide) (fun g => by cases g)).up (a := 10) (by decide) (fun g => by cases g), rfl⟩
  refine w_fld (pc := 116) (a := 11) (cc := 2) (n := 0) (d := d + 1) hC lsz hl0 S9 ds_116 ds_117 ds_120 ds_121 ds_124 cl12_2 ct12_2 ib_2 (by show d + 1 + 2 ≤ d + 8 + 1; omega) (by show 64 * (d + 1 + 2) ≤ 64 * (d + 8 + 1); omega) (by show _ ≤ 200; omega) (by show _ ≤ 8000; omega) (ti_2 (QI := fun x => ∃ B1, SsC 0 [] B1 ∧ TdC 0 plain B1 ∧ FrB 0 (nwO zPS fi_2 (fun _ => none)) B1 ∧ x = [zPS, T, B1, zPS, zPS, (nwO zPS fi_5 (fun _ => none)), (nwO zPS fi_6 (fun _ => none)), (nwO zPS fi_7 (fun _ => none)), (nwO zPS fi_8 (fun _ => none)), (nwO zPS fi_9 (fun _ => none)), (nwO zPS fi_10 (fun _ => none)), (nwO zPS fi_11 (fun _ => none)), zPS]) S9.2.2.2.1 (fun B1 o1 o2 o3 => ⟨B1, o1, o2, o3, rfl⟩)) rfl (fun hs' g => by obtain ⟨B1, _, _, f, rfl⟩ := g; exact ⟨rfl, by show 0 < gN B1; rw [f.gn]; decide⟩) (by decide) (by decide) (Or.inr ⟨rfl, rfl, rfl⟩) (by decide +kernel) (by decide +kernel) (fun hs10 ρ10 H10 lc10 g10 S10 => ?_)
  obtain ⟨B1, bA, bB, bC, rfl⟩ := g10
  have gB1 : gN B1 = 1 := bC.gn
  refine w_fld (pc := 127) (a := 12) (cc := 2) (n := 1) (d := d + 1) hC lsz hl0 S10 ds_127 ds_128 ds_131 ds_132 ds_135 cl12_2 ct12_2 ib_2 (by show d + 1 + 2 ≤ d + 8 + 1; omega) (by show 64 * (d + 1 + 2) ≤ 64 * (d + 8 + 1); omega) (by show _ ≤ 200; omega) (by show _ ≤ 8000; omega) (ti_2 (QI := fun x => ∃ B, SsC 1 [] B ∧ TdC 1 plain B ∧ FrB 1 (nwO B1 fi_2 (fun _ => none)) B ∧ x = [zPS, T, B, zPS, zPS, (nwO zPS fi_5 (fun _ => none)), (nwO zPS fi_6 (fun _ => none)), (nwO zPS fi_7 (fun _ => none)), (nwO zPS fi_8 (fun _ => none)), (nwO zPS fi_9 (fun _ => none)), (nwO zPS fi_10 (fun _ => none)), (nwO zPS fi_11 (fun _ => none)), zPS]) S10.2.2.2.1 (fun B o1 o2 o3 => by rw [gB1] at o1 o2 o3; exact ⟨B, o1, o2, o3, rfl⟩)) gB1 (fun hs' g => by obtain ⟨B, _, _, f, rfl⟩ := g; exact ⟨rfl, by show 1 < gN B; rw [f.gn]; show 1 < gN B1 + 1; omega⟩) (by decide) (by decide) (Or.inr ⟨rfl, rfl, rfl⟩) (by decide +kernel) (by decide +kernel) (fun hs11 ρ11 H11 lc11 g11 S11 => ?_)
  obtain ⟨B, bD, bE, bF, rfl⟩ := g11
  refine w_fld (pc := 138) (a := 13) (cc := 4) (n := 0) (d := d) hC lsz hl0 S11 ds_138 ds_139 ds_142 ds_143 ds_146 cl12_4 ct12_4 ib_4 (by show d + 2 ≤ d + 8 + 1; omega) (by show 64 * (d + 2) ≤ 64 * (d + 8 + 1); omega) (by show _ ≤ 200; omega) (by show _ ≤ 8000; omega) (ti_4 S11.2.2.2.1) rfl (fun hs' g => by rw [g]; exact ⟨rfl, (Nat.lt_succ_self 0 : 0 < 1)⟩) (by decide) (by decide) (Or.inr ⟨rfl, rfl, rfl⟩) (by decide +kernel) (by decide +kernel) (fun hs12 ρ12 H12 lc12 g12 S12 => ?_)
  replace g12 : hs12 = [zPS, T, B, zPS, (nwO zPS fi_4 (fun _ => none)), (nwO zPS fi_5 (fun _ => none)), (nwO zPS fi_6 (fun _ => none)), (nwO zPS fi_7 (fun _ => none)), (nwO zPS fi_8 (fun _ => none)), (nwO zPS fi_9 (fun _ => none)), (nwO zPS fi_10 (fun _ => none)), (nwO zPS fi_11 (fun _ => none)), zPS] := g12
  subst g12
  refine w_fld (pc := 149) (a := 14) (cc := 4) (n := 1) (d := d) hC lsz hl0 S12 ds_149 ds_150 ds_153 ds_154 ds_157 cl12_4 ct12_4 ib_4 (by show d + 2 ≤ d + 8 + 1; omega) (by show 64 * (d + 2) ≤ 64 * (d + 8 + 1); omega) (by show _ ≤ 200; omega) (by show _ ≤ 8000; omega) (ti_4 S12.2.2.2.1) rfl (fun hs' g => by rw [g]; exact ⟨rfl, (Nat.lt_succ_self 1 : 1 < 2)⟩) (by decide) (by decide) (Or.inr ⟨rfl, rfl, rfl⟩) (by decide +kernel) (by decide +kernel) (fun hs13 ρ13 H13 lc13 g13 S13 => ?_)
  replace g13 : hs13 = hsF T B pT1 zPS := g13
  subst g13
  have c12 : cn (hsF T B pT1 zPS) 12 = 0 := rfl
  have dnA : ∀ a, a < nf 12 → updB (updB (updB (updB (dnF (updB (updB (updB (updB (updB (updB (updB (updB (fun _ => false) 0) 1) 2) 3) 4) 5) 6) 7) ops_12) 11) 12) 13) 14 a = true := by decide +kernel
  have fin := S13.1.fin S13.2.2.2.1 (by decide) (nwO_old _ _ _) (fun a ha => Or.inl (dnA a ha))
  have zs0 := S13.1.zs S13.2.2.2.1 (by decide) (nwO_old _ _ _) (fun a ha => Or.inl (dnA a ha))
  have wf14 : wf (hsF T B pT1 pS0) := wf_nwO (c := 12) (hs := hsF T B pT1 zPS) S13.2.2.2.1 (by decide) (fun a ha hk k hq => (S13.2.2.2.2.1 a ha (dnA a ha)).2.1 hk k hq) (fun a ha hk => (S13.2.2.2.2.1 a ha (dnA a ha)).1 hk)
  generalize hρ : rx ρ13 12 (cn (hsF T B pT1 zPS) 12) q0 α9 = ρ14 at fin zs0
  have r14 : ρ14 12 0 0 = q0 := by rw [← hρ]; exact rx_q
  have R14 : RelH D aC ρ14 (hsF T B pT1 pS0) H13 := fin.1
  have E14 : ext ρ z13 ρ14 (hsF T B pT1 pS0) q0 := ext_trans (ext_mo S13.2.1 (by omega)) fin.2 (Nat.le_refl _)
  have Z14 : ∀ q, zA ρ14 (hsF T B pT1 pS0) H13.size q → iA ρ z13 s.heap.size q0 q := fun q g => by
    rcases zs0 q g with g | g
    · exact Or.inl g
    · exact Or.inr (zA_sub S13.2.1 (Nat.le_refl _) g)
  clear fin zs0
  obtain ⟨t65, ft65⟩ := ft_65
  have step : ∀ (k : Nat) (St SE : PS) (ρk : Nat → Nat → Nat → Nat) (H : Heap) (lc : List Loc) (ls : Array Slot) (cells slots : Nat), k < 3 → gN St = k + 1 → gN SE = 1 → wf (hsF T B St SE) → RelH D aC ρk (hsF T B St SE) H → ext ρ z13 ρk (hsF T B St SE) q0 → (∀ q, zA ρk (hsF T B St SE) H.size q → iA ρ z13 s.heap.size q0 q) → ρk 12 0 0 = q0 → va_S (iA ρ z13 s.heap.size q0) s.heap H lc → lv_has ls 2 [(1, .int (nI k)), (0, .ref q0)] → cells + 5 ≤ 200 → slots + 60 ≤ 8000 →
      (∀ (ρ' : Nat → Nat → Nat → Nat) (H' : Heap) (lc' : List Loc) (ls' : Array Slot), wf (hsF T B (nwO St fi_6 (fun _ => none)) (sR SE 0 8 k (some (k + 1)))) → RelH D aC ρ' (hsF T B (nwO St fi_6 (fun _ => none)) (sR SE 0 8 k (some (k + 1)))) H' → ext ρ z13 ρ' (hsF T B (nwO St fi_6 (fun _ => none)) (sR SE 0 8 k (some (k + 1)))) q0 → (∀ q, zA ρ' (hsF T B (nwO St fi_6 (fun _ => none)) (sR SE 0 8 k (some (k + 1)))) H'.size q → iA ρ z13 s.heap.size q0 q) → ρ' 12 0 0 = q0 → va_S (iA ρ z13 s.heap.size q0) s.heap H' lc' → lv_has ls' 2 [(1, .int (nI (k + 1))), (0, .ref q0)] → W p l e (rmd (d + 8) 200 8000) s m #[Value.ref q0] below meth cd H' lc' (cells + 5) (slots + 60) (MQ below (iQ D aC ρ z13 s.heap.size 12 q0 QI) #[Value.ref q0] s 200 8000 (iA ρ z13 s.heap.size q0)) (F0 m 162 ls' [])) →
      W p l e (rmd (d + 8) 200 8000) s m #[Value.ref q0] below meth cd H lc cells slots (MQ below (iQ D aC ρ z13 s.heap.size 12 q0 QI) #[Value.ref q0] s 200 8000 (iA ρ z13 s.heap.size q0)) (F0 m 162 ls []) := by
    intro k St SE ρk H lc ls cells slots hk gSt gSE hw hR hE' hZ hr hS hl hcs hss kk
    have v12 : vc (hsF T B St SE) 12 0 0 := ⟨by decide, by show 0 < gN SE; omega⟩
    refine lv_iload_n hx hb ds_162 rfl (lv_at hl 0 rfl) ?_
    refine lv_iconst (v := 3) hx hb ds_163 (by decide) ?_
    refine lv_icmp_ge (tgt := 186) hx hb ds_164 (by decide) (fun g => absurd g (nI_ge (b := 3) hk (by omega))) (fun _ => ?_)
    refine lv_aload_n (x := ρk 12 0 0) hx hb ds_167 rfl (by rw [hr]; exact lv_at hl 1 rfl) ?_
    refine z_get (own := 12) (ci := 12) (j := 0) hx hb hown hts hKK hR v12 ft65 ds_168 ?_
    rw [fv_a (by decide +kernel)]
    refine lv_iload_n hx hb ds_171 rfl (lv_at hl 0 rfl) ?_
    refine w_new (own := 12) (c := 6) (M := mi_6) (d := d) hx hb hml hown hts hKK (fun _ => hAO (show (12 : Nat) ≠ 3 by decide)) hR hS hZ hl.1 ds_172 ds_175 ds_176 cl12_6 ct12_6 ib_6 (by show 2 ≤ 7; omega) (by show d + 2 ≤ d + 8 + 1; omega) (by show 64 * (d + 2) ≤ 64 * (d + 8 + 1); omega) (by show _ ≤ 200; omega) (by show _ ≤ 8000; omega) (ti_6 hw) (fun hs' ρ' H1 lc1 q1 w1 r1 e1 z1 k1 s1 => ?_)
    replace q1 : hs' = hsF T B (nwO St fi_6 (fun _ => none)) SE := q1
    subst q1
    have cn6 : cn (hsF T B St SE) 6 = k + 1 := gSt
    have hv9 : vc (hsF T B St SE) 12 0 9 := ⟨v12, by decide, rfl⟩
    have hv9' : vc (hsF T B (nwO St fi_6 (fun _ => none)) SE) 12 0 9 := vc_le e1.1 hv9
    have hvk : vc (hsF T B (nwO St fi_6 (fun _ => none)) SE) 6 (k + 1) 0 := ⟨by decide, by show k + 1 < gN St + 1; omega⟩
    have Z1 : ∀ q, zA ρ' (hsF T B (nwO St fi_6 (fun _ => none)) SE) H1.size q → iA ρ z13 s.heap.size q0 q := fun q g => hZ q (zA_sub e1 z1 g)
    rw [cn6, ← e1.2.1 12 0 9 hv9.1.2]
    refine z_aast (ci := 12) (a := 8) (j := 0) (k := k + 1) hx hb hKK r1 w1.1 hv9' rfl hvk (vp_in_nI (N := 3) hk (by omega)) (Z1 _ (Or.inl ⟨12, 0, 9, hv9', rfl⟩)) s1 ds_179 (fun H2 lc2 r2 s2 => ?_)
    have ckk : (nI k).toNatClampNeg = k := nI_clamp (by omega)
    rw [ckk] at r2
    have r2 : RelH D aC ρ' (hsF T B (nwO St fi_6 (fun _ => none)) (sR SE 0 8 k (some (k + 1)))) H2 := r2
    have cne : ∀ c', cn (hsF T B (nwO St fi_6 (fun _ => none)) (sR SE 0 8 k (some (k + 1)))) c' = cn (hsF T B (nwO St fi_6 (fun _ => none)) SE) c' := cn_set (c := 12) (hs := hsF T B (nwO St fi_6 (fun _ => none)) SE) (P := sR SE 0 8 k (some (k + 1))) (by show 12 < 13; omega) rfl
    have w2 : wf (hsF T B (nwO St fi_6 (fun _ => none)) (sR SE 0 8 k (some (k + 1)))) := wf_set (c := 12) (hs := hsF T B (nwO St fi_6 (fun _ => none)) SE) w1 (by decide) rfl (fun j a h1 h2 hk' x hq => (w1.2 12 j (by decide) h1 a h2).1 hk' x hq) (fun j a i h1 h2 hk' x hq => by
      by_cases c : a = 8 ∧ j = 0 ∧ i = k
      · rw [c.1, c.2.1, c.2.2] at hq
        have : gR (sR SE 0 8 k (some (k + 1))) 0 8 k = some (k + 1) := by rw [gR_sR, if_pos rfl, if_pos rfl, if_pos rfl]
        rw [this] at hq
        cases hq
        rw [c.1]; exact hvk
      · refine (w1.2 12 j (by decide) h1 a h2).2.1 hk' i x ?_
        rw [← hq, gR_sR]
        split
        · split
          · split
            · exact absurd ⟨by assumption, by assumption, by assumption⟩ c
            · rfl
          · rfl
        · rfl)
    refine lv_iinc (v := nI (k + 1)) (lv' := [(1, .int (nI (k + 1))), (0, .ref q0)]) hx hb ds_180 hl (k := 0) rfl (by rw [nI_succ]; rfl) (by decide) rfl (fun ls hl => ?_)
    refine lv_goto (tgt := 162) hx hb ds_183 (by decide) ?_
    have ee := kk ρ' H2 lc2 ls w2 r2 (ext_cn (ext_trans hE' e1 (by have := hS.1; omega)) cne) (fun q g => ?_) (by rw [e1.2.1 12 0 0 v12.2]; exact hr) s2 hl
    · rw [show cells + 5 = cells + 1 + sumC ops_6 by omega, show slots + 60 = slots + nf 6 + sumS 6 ops_6 by omega] at ee
      exact ee
    · rcases g with ⟨c', j, a, hv, rfl⟩ | g
      · exact Z1 _ (Or.inl ⟨c', j, a, (vc_cn cne c' j a).mp hv, rfl⟩)
      · exact Or.inr (Or.inr (by have := s2.1; omega))
  refine lv_iconst (v := 0) hx hb ds_160 (by decide) ?_
  refine lv_istore_n (lv' := [(1, .int 0), (0, .ref q0)]) hx hb ds_161 rfl hls (by decide) rfl (fun ls0 hl0' => ?_)
  refine step 0 pT1 pS0 ρ14 H13 lc13 ls0 _ _ (by omega) rfl rfl wf14 R14 E14 Z14 r14 S13.2.2.1 hl0' (by omega) (by omega) (fun ρa Ha lca lsa wa ra ea za ka sa la => ?_)
  refine step 1 pT2 pS1 ρa Ha lca lsa _ _ (by omega) rfl rfl wa ra ea za ka sa la (by omega) (by omega) (fun ρb Hb lcb lsb wb rb eb zb kb sb lb => ?_)
  refine step 2 pT3 pS2 ρb Hb lcb lsb _ _ (by omega) rfl rfl wb rb eb zb kb sb lb (by omega) (by omega) (fun ρc Hc lcc lsc wc rc ec zc_ kc sc lc_ => ?_)
  refine lv_iload_n hx hb ds_162 rfl (lv_at lc_ 0 rfl) ?_
  refine lv_iconst (v := 3) hx hb ds_163 (by decide) ?_
  refine lv_icmp_ge (tgt := 186) hx hb ds_164 (by decide) (fun _ => ?_) (fun g => absurd (by decide) g)
  refine W.widen (k := 200) (n := 8000) (by omega) (by omega) ?_
  exact W.vret hx hb hret (fun t ht _ => ⟨_, ρc, rfl, h T B1 B oT fT bA bB bC bD bE bF, wc, by rw [ht]; exact rc, ec, kc, sc.F ht⟩) sc.2.2 ds_186 hlk
