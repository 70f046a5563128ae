/-! ===== what Strings' methods answer ===== -/
def mjLen : MI := (fun _ => none, 0, yJ0_length_8abf5, cJ0_length_8abf5, 1, some .int, 17)
def mjChr : MI := (fun _ => none, 0, yJ0_charAt_5068e, cJ0_charAt_5068e, 2, some .char, 17)
def mjCod : MI := (fun _ => none, 0, yJ0_coder_7d493, cJ0_coder_7d493, 1, some .byte, 17)
def mjLat : MI := (fun _ => none, 0, yJ0_isLatin1_aae02, cJ0_isLatin1_aae02, 1, some .boolean, 17)
def mjChk : MI := (fun _ => none, 0, yJ0_checkIndex_df160, cJ0_checkIndex_df160, 2, none, 17)
def mjLch : MI := (fun _ => none, 0, yJ1_charAt_3b067, cJ1_charAt_3b067, 2, some .char, 18)
def mjPre : MI := (fun _ => none, 0, yJ3_checkIndex_8e157, cJ3_checkIndex_8e157, 3, some .int, 20)
set_option maxRecDepth 20000 in
theorem sj_len : sJ mjLen 0 := ⟨gw_in (in_1 _ (List.mem_of_getElem? (i := 40) rfl)) rfl, wGW_ok (i := 115) (by decide +kernel), by decide, by decide, by decide, by decide +kernel⟩
set_option maxRecDepth 20000 in
theorem sj_chr : sJ mjChr 1 := ⟨gw_in (in_1 _ (List.mem_of_getElem? (i := 50) rfl)) rfl, wGW_ok (i := 115) (by decide +kernel), by decide, by decide, by decide, by decide +kernel⟩
set_option maxRecDepth 20000 in
theorem sj_cod : sJ mjCod 0 := ⟨gw_in (in_1 _ (List.mem_of_getElem? (i := 44) rfl)) rfl, wGW_ok (i := 115) (by decide +kernel), by decide, by decide, by decide, by decide +kernel⟩
set_option maxRecDepth 20000 in
theorem sj_lat : sJ mjLat 0 := ⟨gw_in (in_1 _ (List.mem_of_getElem? (i := 54) rfl)) rfl, wGW_ok (i := 115) (by decide +kernel), by decide, by decide, by decide, by decide +kernel⟩
set_option maxRecDepth 20000 in
theorem sj_chk : sJ mjChk 2 := ⟨gw_in (in_1 _ (List.mem_of_getElem? (i := 60) rfl)) rfl, wGW_ok (i := 115) (by decide +kernel), by decide, by decide, by decide, by decide +kernel⟩
set_option maxRecDepth 20000 in
theorem sj_lch : sJ mjLch 2 := ⟨gw_in (in_1 _ (List.mem_of_getElem? (i := 57) rfl)) rfl, wGW_ok (i := 116) (by decide +kernel), by decide, by decide, by decide, by decide +kernel⟩
set_option maxRecDepth 20000 in
theorem sj_pre : sJ mjPre 3 := ⟨gw_in (in_1 _ (List.mem_of_getElem? (i := 65) rfl)) rfl, wGW_ok (i := 117) (by decide +kernel), by decide, by decide, by decide, by decide +kernel⟩
theorem dj_len_0 : decode cJ0_length_8abf5 0 = .ok (.aload_n 0, 1) := by decide +kernel
theorem dj_len_1 : decode cJ0_length_8abf5 1 = .ok (.getfield 9, 3) := by decide +kernel
theorem dj_len_4 : decode cJ0_length_8abf5 4 = .ok (.arraylength, 1) := by decide +kernel
theorem dj_len_5 : decode cJ0_length_8abf5 5 = .ok (.aload_n 0, 1) := by decide +kernel
theorem dj_len_6 : decode cJ0_length_8abf5 6 = .ok (.invokevirtual 335, 3) := by decide +kernel
theorem dj_len_9 : decode cJ0_length_8abf5 9 = .ok (.ishr, 1) := by decide +kernel
theorem dj_len_10 : decode cJ0_length_8abf5 10 = .ok (.ireturn, 1) := by decide +kernel
theorem dj_chr_0 : decode cJ0_charAt_5068e 0 = .ok (.aload_n 0, 1) := by decide +kernel
theorem dj_chr_1 : decode cJ0_charAt_5068e 1 = .ok (.invokevirtual 492, 3) := by decide +kernel
theorem dj_chr_4 : decode cJ0_charAt_5068e 4 = .ok (.ifCond .eq 12, 3) := by decide +kernel
theorem dj_chr_7 : decode cJ0_charAt_5068e 7 = .ok (.aload_n 0, 1) := by decide +kernel
theorem dj_chr_8 : decode cJ0_charAt_5068e 8 = .ok (.getfield 9, 3) := by decide +kernel
theorem dj_chr_11 : decode cJ0_charAt_5068e 11 = .ok (.iload_n 1, 1) := by decide +kernel
theorem dj_chr_12 : decode cJ0_charAt_5068e 12 = .ok (.invokestatic 495, 3) := by decide +kernel
theorem dj_chr_15 : decode cJ0_charAt_5068e 15 = .ok (.ireturn, 1) := by decide +kernel
theorem dj_chr_16 : decode cJ0_charAt_5068e 16 = .ok (.aload_n 0, 1) := by decide +kernel
theorem dj_chr_17 : decode cJ0_charAt_5068e 17 = .ok (.getfield 9, 3) := by decide +kernel
theorem dj_chr_20 : decode cJ0_charAt_5068e 20 = .ok (.iload_n 1, 1) := by decide +kernel
theorem dj_chr_21 : decode cJ0_charAt_5068e 21 = .ok (.invokestatic 498, 3) := by decide +kernel
theorem dj_chr_24 : decode cJ0_charAt_5068e 24 = .ok (.ireturn, 1) := by decide +kernel
theorem dj_cod_0 : decode cJ0_coder_7d493 0 = .ok (.getstatic 38, 3) := by decide +kernel
theorem dj_cod_3 : decode cJ0_coder_7d493 3 = .ok (.ifCond .eq 10, 3) := by decide +kernel
theorem dj_cod_6 : decode cJ0_coder_7d493 6 = .ok (.aload_n 0, 1) := by decide +kernel
theorem dj_cod_7 : decode cJ0_coder_7d493 7 = .ok (.getfield 15, 3) := by decide +kernel
theorem dj_cod_10 : decode cJ0_coder_7d493 10 = .ok (.goto 4, 3) := by decide +kernel
theorem dj_cod_13 : decode cJ0_coder_7d493 13 = .ok (.iconst 1, 1) := by decide +kernel
theorem dj_cod_14 : decode cJ0_coder_7d493 14 = .ok (.ireturn, 1) := by decide +kernel
theorem dj_lat_0 : decode cJ0_isLatin1_aae02 0 = .ok (.getstatic 38, 3) := by decide +kernel
theorem dj_lat_3 : decode cJ0_isLatin1_aae02 3 = .ok (.ifCond .eq 14, 3) := by decide +kernel
theorem dj_lat_6 : decode cJ0_isLatin1_aae02 6 = .ok (.aload_n 0, 1) := by decide +kernel
theorem dj_lat_7 : decode cJ0_isLatin1_aae02 7 = .ok (.getfield 15, 3) := by decide +kernel
theorem dj_lat_10 : decode cJ0_isLatin1_aae02 10 = .ok (.ifCond .ne 7, 3) := by decide +kernel
theorem dj_lat_13 : decode cJ0_isLatin1_aae02 13 = .ok (.iconst 1, 1) := by decide +kernel
theorem dj_lat_14 : decode cJ0_isLatin1_aae02 14 = .ok (.goto 4, 3) := by decide +kernel
theorem dj_lat_17 : decode cJ0_isLatin1_aae02 17 = .ok (.iconst 0, 1) := by decide +kernel
theorem dj_lat_18 : decode cJ0_isLatin1_aae02 18 = .ok (.ireturn, 1) := by decide +kernel
theorem dj_chk_0 : decode cJ0_checkIndex_df160 0 = .ok (.iload_n 0, 1) := by decide +kernel
theorem dj_chk_1 : decode cJ0_checkIndex_df160 1 = .ok (.iload_n 1, 1) := by decide +kernel
theorem dj_chk_2 : decode cJ0_checkIndex_df160 2 = .ok (.getstatic 1053, 3) := by decide +kernel
theorem dj_chk_5 : decode cJ0_checkIndex_df160 5 = .ok (.invokestatic 1059, 3) := by decide +kernel
theorem dj_chk_8 : decode cJ0_checkIndex_df160 8 = .ok (.pop, 1) := by decide +kernel
theorem dj_chk_9 : decode cJ0_checkIndex_df160 9 = .ok (.return_, 1) := by decide +kernel
theorem dj_lch_0 : decode cJ1_charAt_3b067 0 = .ok (.iload_n 1, 1) := by decide +kernel
theorem dj_lch_1 : decode cJ1_charAt_3b067 1 = .ok (.aload_n 0, 1) := by decide +kernel
theorem dj_lch_2 : decode cJ1_charAt_3b067 2 = .ok (.arraylength, 1) := by decide +kernel
theorem dj_lch_3 : decode cJ1_charAt_3b067 3 = .ok (.invokestatic 9, 3) := by decide +kernel
theorem dj_lch_6 : decode cJ1_charAt_3b067 6 = .ok (.aload_n 0, 1) := by decide +kernel
theorem dj_lch_7 : decode cJ1_charAt_3b067 7 = .ok (.iload_n 1, 1) := by decide +kernel
theorem dj_lch_8 : decode cJ1_charAt_3b067 8 = .ok (.baload, 1) := by decide +kernel
theorem dj_lch_9 : decode cJ1_charAt_3b067 9 = .ok (.sipush 255, 3) := by decide +kernel
theorem dj_lch_12 : decode cJ1_charAt_3b067 12 = .ok (.iand, 1) := by decide +kernel
theorem dj_lch_13 : decode cJ1_charAt_3b067 13 = .ok (.i2c, 1) := by decide +kernel
theorem dj_lch_14 : decode cJ1_charAt_3b067 14 = .ok (.ireturn, 1) := by decide +kernel
theorem dj_pre_0 : decode cJ3_checkIndex_8e157 0 = .ok (.iload_n 0, 1) := by decide +kernel
theorem dj_pre_1 : decode cJ3_checkIndex_8e157 1 = .ok (.ifCond .lt 8, 3) := by decide +kernel
theorem dj_pre_4 : decode cJ3_checkIndex_8e157 4 = .ok (.iload_n 0, 1) := by decide +kernel
theorem dj_pre_5 : decode cJ3_checkIndex_8e157 5 = .ok (.iload_n 1, 1) := by decide +kernel
theorem dj_pre_6 : decode cJ3_checkIndex_8e157 6 = .ok (.if_icmp .lt 10, 3) := by decide +kernel
theorem dj_pre_9 : decode cJ3_checkIndex_8e157 9 = .ok (.aload_n 2, 1) := by decide +kernel
theorem dj_pre_10 : decode cJ3_checkIndex_8e157 10 = .ok (.iload_n 0, 1) := by decide +kernel
theorem dj_pre_11 : decode cJ3_checkIndex_8e157 11 = .ok (.iload_n 1, 1) := by decide +kernel
theorem dj_pre_12 : decode cJ3_checkIndex_8e157 12 = .ok (.invokestatic 95, 3) := by decide +kernel
theorem dj_pre_15 : decode cJ3_checkIndex_8e157 15 = .ok (.athrow, 1) := by decide +kernel
theorem dj_pre_16 : decode cJ3_checkIndex_8e157 16 = .ok (.iload_n 0, 1) := by decide +kernel
theorem dj_pre_17 : decode cJ3_checkIndex_8e157 17 = .ok (.ireturn, 1) := by decide +kernel
theorem fl (i : Nat) {own idx : Nat} {ref n d : String} (h : wGW i (.fieldLink (rn own) idx ref n d) = true) : Cond.fieldLink (rn own) idx ref n d ∈ GW := wGW_ok h
section SM
variable {d b aK aV : Nat} {v9 : Value}
theorem s_coder : sMet mjCod d b aK aV v9 [.ref aK] (some (.int 0)) := by
  refine sMet_of (by decide +kernel) rfl (by show 1 ≤ 1; omega) (fun p l e s m below meth cd ls hC hls hE => ?_)
  obtain ⟨hx, hb, hml, hown, hts, hret, hlk⟩ := hC
  refine va_gets hx hb hE.2.1 va_S.rf hown (hts _ (fl 157 (own := 17) (idx := 38) (by decide +kernel))) (fun _ h => h) dj_cod_0 ?_
  refine lv_if_eq (tgt := 13) hx hb dj_cod_3 (by decide) (fun g => absurd g (by decide)) (fun _ => ?_)
  refine lv_aload_n hx hb dj_cod_6 rfl (lv_at hls 0 rfl) ?_
  refine vk_getf hx hb (hE.1.1 0 (by omega)).2.1 va_S.rf hown (hts _ (fl 2171 (own := 17) (idx := 15) (by decide +kernel))) (fun _ h => h) dj_cod_7 ?_
  refine lv_goto (tgt := 14) hx hb dj_cod_10 (by decide) ?_
  exact W.zret (v := 0) (ty := .byte) hx hb hret rfl (fun t ht _ => ⟨rfl, ht⟩) (fun q hq => by cases hq) dj_cod_14 hlk
theorem s_latin : sMet mjLat d b aK aV v9 [.ref aK] (some (.int 1)) := by
  refine sMet_of (by decide +kernel) rfl (by show 1 ≤ 1; omega) (fun p l e s m below meth cd ls hC hls hE => ?_)
  obtain ⟨hx, hb, hml, hown, hts, hret, hlk⟩ := hC
  refine va_gets hx hb hE.2.1 va_S.rf hown (hts _ (fl 157 (own := 17) (idx := 38) (by decide +kernel))) (fun _ h => h) dj_lat_0 ?_
  refine lv_if_eq (tgt := 17) hx hb dj_lat_3 (by decide) (fun g => absurd g (by decide)) (fun _ => ?_)
  refine lv_aload_n hx hb dj_lat_6 rfl (lv_at hls 0 rfl) ?_
  refine vk_getf hx hb (hE.1.1 0 (by omega)).2.1 va_S.rf hown (hts _ (fl 2171 (own := 17) (idx := 15) (by decide +kernel))) (fun _ h => h) dj_lat_7 ?_
  refine lv_if_ne (tgt := 17) hx hb dj_lat_10 (by decide) (fun g => absurd rfl g) (fun _ => ?_)
  refine lv_iconst (v := 1) hx hb dj_lat_13 (by decide) ?_
  refine lv_goto (tgt := 18) hx hb dj_lat_14 (by decide) ?_
  exact W.zret (v := 1) (ty := .boolean) hx hb hret rfl (fun t ht _ => ⟨rfl, ht⟩) (fun q hq => by cases hq) dj_lat_18 hlk
theorem s_length : sMet mjLen (d + 1) b aK aV v9 [.ref aK] (some (.int 216)) := by
  refine sMet_of (by decide +kernel) rfl (by show 1 ≤ 1; omega) (fun p l e s m below meth cd ls hC hls hE => ?_)
  obtain ⟨hx, hb, hml, hown, hts, hret, hlk⟩ := hC
  refine lv_aload_n hx hb dj_len_0 rfl (lv_at hls 0 rfl) ?_
  refine vk_getf hx hb (hE.1.1 0 (by omega)).2.2.1 va_S.rf hown (hts _ (fl 2170 (own := 17) (idx := 9) (by decide +kernel))) (fun _ h => h) dj_len_1 ?_
  refine va_tlen (v := 216) hx hb (hE.1.1 0 (by omega)).2.2.2 va_S.rf (by decide) dj_len_4 ?_
  refine lv_aload_n hx hb dj_len_5 rfl (lv_at hls 0 rfl) ?_
  refine w_sv (M := mjCod) (d := d) (k := 0) (own := 17) (As := []) (rest := [.int 216]) hx hb hml hown hts hls.1 hE dj_len_6 (wGW_ok (i := 153) (by decide +kernel)) sj_cod rfl (wGW_ok (i := 154) (by decide +kernel)) (wGW_ok (i := 155) (by decide +kernel)) rfl (by show 1 ≤ 8; omega) (by show d + 2 ≤ d + 1 + 1; omega) (by show 64 * (d + 2) ≤ 64 * (d + 1 + 1); omega) ⟨Nat.le_refl _, Nat.le_refl _⟩ s_coder ?_
  refine lv_ishr hx hb dj_len_9 ?_
  exact W.iret (v := 216) hx hb hret (fun t ht _ => ⟨rfl, ht⟩) (fun q hq => by cases hq) dj_len_10 hlk
theorem s_pre {i n : Int32} (h0 : ¬ i < 0) (h1 : i < n) (h9 : v9.category = 1) : sMet mjPre d b aK aV v9 [.int i, .int n, v9] (some (.int i)) := by
  refine sMet_of (by decide +kernel) rfl (by cases v9 <;> first | exact Nat.le_refl 3 | cases h9) (fun p l e s m below meth cd ls hC hls hE => ?_)
  obtain ⟨hx, hb, hml, hown, hts, hret, hlk⟩ := hC
  refine lv_iload_n hx hb dj_pre_0 rfl (lv_at hls 0 rfl) ?_
  refine lv_if_lt (tgt := 9) hx hb dj_pre_1 (by decide) (fun g => absurd g h0) (fun _ => ?_)
  refine lv_iload_n hx hb dj_pre_4 rfl (lv_at hls 0 rfl) ?_
  refine lv_iload_n hx hb dj_pre_5 rfl (lv_at hls 1 rfl) ?_
  refine lv_icmp_lt (tgt := 16) hx hb dj_pre_6 (by decide) (fun _ => ?_) (fun g => absurd h1 g)
  refine lv_iload_n hx hb dj_pre_16 rfl (lv_at hls 0 rfl) ?_
  exact W.iret (v := i) hx hb hret (fun t ht _ => ⟨rfl, ht⟩) (fun q hq => by cases hq) dj_pre_17 hlk
theorem s_chk {i n : Int32} (h0 : ¬ i < 0) (h1 : i < n) : sMet mjChk (d + 1) b aK aV v9 [.int i, .int n] none := by
  refine sMet_of (by decide +kernel) rfl (by show 2 ≤ 2; omega) (fun p l e s m below meth cd ls hC hls hE => ?_)
  obtain ⟨hx, hb, hml, hown, hts, hret, hlk⟩ := hC
  refine lv_iload_n hx hb dj_chk_0 rfl (lv_at hls 0 rfl) ?_
  refine lv_iload_n hx hb dj_chk_1 rfl (lv_at hls 1 rfl) ?_
  refine va_gets hx hb hE.2.2.1 va_S.rf hown (hts _ (fl 173 (own := 17) (idx := 1053) (by decide +kernel))) (fun _ h => h) dj_chk_2 ?_
  refine w_ss (M := mjPre) (d := d) (k := 3) (own := 17) (As := [.int i, .int n, v9]) (rest := []) hx hb hml hown hts hls.1 hE dj_chk_5 (wGW_ok (i := 175) (by decide +kernel)) sj_pre (wGW_ok (i := 176) (by decide +kernel)) rfl (by show 0 ≤ 8; omega) (by show d + 2 ≤ d + 1 + 1; omega) (by show 64 * (d + 2) ≤ 64 * (d + 1 + 1); omega) ⟨Nat.le_refl _, Nat.le_refl _⟩ (s_pre h0 h1 hE.2.2.2) ?_
  refine lv_pop hx hb dj_chk_8 rfl ?_
  exact W.vret hx hb hret (fun t ht _ => ⟨rfl, ht⟩) (fun q hq => by cases hq) dj_chk_9 hlk
theorem sb_ch : ∀ x ∈ SB, ((x &&& 255).toUInt32 % 65536).toInt32 = x ∧ narrow .char (.int x) = .int x := by decide +kernel
theorem s_lch {k : Nat} (hk : k < 216) : sMet mjLch (d + 2) b aK aV v9 [.ref aV, .int (nI k)] (some (.int (SB.getD k 0))) := by
  have hm : SB.getD k 0 ∈ SB := by
    rw [List.getD_eq_getElem?_getD, List.getElem?_eq_getElem (show k < SB.length from hk)]
    exact List.getElem_mem _
  have hc := sb_ch _ hm
  refine sMet_of (by decide +kernel) rfl (by show 2 ≤ 2; omega) (fun p l e s m below meth cd ls hC hls hE => ?_)
  obtain ⟨hx, hb, hml, hown, hts, hret, hlk⟩ := hC
  refine lv_iload_n hx hb dj_lch_0 rfl (lv_at hls 1 rfl) ?_
  refine lv_aload_n hx hb dj_lch_1 rfl (lv_at hls 0 rfl) ?_
  refine va_tlen (v := 216) hx hb (hE.1.1 0 (by omega)).2.2.2 va_S.rf (by decide) dj_lch_2 ?_
  refine w_ss (M := mjChk) (d := d + 1) (k := 2) (own := 18) (As := [.int (nI k), .int 216]) (rest := []) hx hb hml hown hts hls.1 hE dj_lch_3 (wGW_ok (i := 170) (by decide +kernel)) sj_chk (wGW_ok (i := 171) (by decide +kernel)) rfl (by show 0 ≤ 8; omega) (by show d + 1 + 2 ≤ d + 2 + 1; omega) (by show 64 * (d + 1 + 2) ≤ 64 * (d + 2 + 1); omega) ⟨Nat.le_refl _, Nat.le_refl _⟩ (s_chk (nI_pos (by omega)) (nI_lt (b := 216) hk (by omega))) ?_
  refine lv_aload_n hx hb dj_lch_6 rfl (lv_at hls 0 rfl) ?_
  refine lv_iload_n hx hb dj_lch_7 rfl (lv_at hls 1 rfl) ?_
  refine va_tb (v := .int (SB.getD k 0)) hx hb (hE.1.1 0 (by omega)).2.2.2 va_S.rf (vp_in_nI (N := 216) hk (by omega)) (by rw [nI_clamp (by omega)]; rfl) dj_lch_8 ?_
  refine lv_sipush (v := 255) hx hb dj_lch_9 (by decide) ?_
  refine lv_iand hx hb dj_lch_12 ?_
  refine lv_i2c hx hb dj_lch_13 hc.1 ?_
  exact W.zret (v := SB.getD k 0) (ty := .char) hx hb hret hc.2 (fun t ht _ => ⟨rfl, ht⟩) (fun q hq => by cases hq) dj_lch_14 hlk
theorem s_chr {k : Nat} (hk : k < 216) : sMet mjChr (d + 3) b aK aV v9 [.ref aK, .int (nI k)] (some (.int (SB.getD k 0))) := by
  have hm : SB.getD k 0 ∈ SB := by
    rw [List.getD_eq_getElem?_getD, List.getElem?_eq_getElem (show k < SB.length from hk)]
    exact List.getElem_mem _
  have hc := sb_ch _ hm
  refine sMet_of (by decide +kernel) rfl (by show 2 ≤ 2; omega) (fun p l e s m below meth cd ls hC hls hE => ?_)
  obtain ⟨hx, hb, hml, hown, hts, hret, hlk⟩ := hC
  refine lv_aload_n hx hb dj_chr_0 rfl (lv_at hls 0 rfl) ?_
  refine w_sv (M := mjLat) (d := d + 2) (k := 0) (own := 17) (As := []) (rest := []) hx hb hml hown hts hls.1 hE dj_chr_1 (wGW_ok (i := 163) (by decide +kernel)) sj_lat rfl (wGW_ok (i := 164) (by decide +kernel)) (wGW_ok (i := 165) (by decide +kernel)) rfl (by show 0 ≤ 8; omega) (by show d + 2 + 2 ≤ d + 3 + 1; omega) (by show 64 * (d + 2 + 2) ≤ 64 * (d + 3 + 1); omega) ⟨Nat.le_refl _, Nat.le_refl _⟩ s_latin ?_
  refine lv_if_eq (tgt := 16) hx hb dj_chr_4 (by decide) (fun g => absurd g (by decide)) (fun _ => ?_)
  refine lv_aload_n hx hb dj_chr_7 rfl (lv_at hls 0 rfl) ?_
  refine vk_getf hx hb (hE.1.1 0 (by omega)).2.2.1 va_S.rf hown (hts _ (fl 2170 (own := 17) (idx := 9) (by decide +kernel))) (fun _ h => h) dj_chr_8 ?_
  refine lv_iload_n hx hb dj_chr_11 rfl (lv_at hls 1 rfl) ?_
  refine w_ss (M := mjLch) (d := d + 2) (k := 2) (own := 17) (As := [.ref aV, .int (nI k)]) (rest := []) hx hb hml hown hts hls.1 hE dj_chr_12 (wGW_ok (i := 167) (by decide +kernel)) sj_lch (wGW_ok (i := 168) (by decide +kernel)) rfl (by show 0 ≤ 8; omega) (by show d + 2 + 2 ≤ d + 3 + 1; omega) (by show 64 * (d + 2 + 2) ≤ 64 * (d + 3 + 1); omega) ⟨Nat.le_refl _, Nat.le_refl _⟩ (s_lch hk) ?_
  exact W.zret (v := SB.getD k 0) (ty := .char) hx hb hret hc.2 (fun t ht _ => ⟨rfl, ht⟩) (fun q hq => by cases hq) dj_chr_15 hlk
end SM
