/-! ===== the loop ===== -/
theorem law_loop {p : Program} {l : Launch} {e : Env} {s : State} {m : MethodId} {below : List Frame} {meth : Method} {c : Code} {D : va_G} {aC : Nat → ClassId} {b L : Nat} {xs : Nat → Int32} (hL : L ≤ 3584) (C0 : lw_At p s m meth c b L xs) (hKK : KK D aC s) {C S : Nat} (hC : C ≤ 2000) (hSl : S ≤ 100000) :
    ∀ (n it : Nat), it + n = 513 → 7 * it ≤ L → ∀ (hs : List PS) (ρ : Nat → Nat → Nat → Nat) (H : Heap) (locs : List Loc) (ls : Array Slot), INV hs → wf hs → RelH D aC ρ hs H → (∀ q, zA ρ hs H.size q → s.heap.size ≤ q) → va_S (fun q : Nat => s.heap.size ≤ q) s.heap H locs → 0 < cn hs 12 → 0 < cn hs 0 → 0 < cn hs 6 → lv_has ls 4 [(0, .ref b), (1, .ref (ρ 12 0 0)), (2, .ref (ρ 0 0 0)), (3, .int (iI ((7 * it : Nat))))] → W p l e room_1 s m #[Value.ref b] below meth c H locs (C + 8 * it) (S + 292 * it) (lw_Z below #[Value.ref b] s) (F0 m 18 ls []) := by
  obtain ⟨hx, hb, hr, hml, hown, hts, hX, hbl, hlocks, hgv⟩ := C0
  have hbA : ¬ (fun q : Nat => s.heap.size ≤ q) b := Nat.not_le.mpr hbl
  have hown : s.vm.findClass (rn 13) = some m.cls := hown
  have hts : ∀ w ∈ GW, w.before #[Value.ref b] s = true := fun w hw => hts w (List.mem_filter.mp hw).1
  intro n
  induction n with
  | zero => intro it h1 h2; omega
  | succ n ih =>
    intro it h1 h2 hs ρ H locs ls inv hwf hR hA hS h12 h0 h6 hl
    generalize hi : 7 * it = i at h2 hl
    have hl0 : ls[0]? = some (.val (.ref b)) := lv_at hl 0 rfl
    have hl3 : ls[3]? = some (.val (.int (iI (i : Nat)))) := lv_at hl 3 rfl
    refine lv_iload_n hx hb dl_18 rfl hl3 ?_
    refine lv_aload_n hx hb dl_19 rfl hl0 ?_
    refine va_slen hx hb hX hbl hbA hS dl_20 ?_
    refine lv_bipush (v := 7) hx hb dl_21 (by decide) ?_
    refine lv_isub hx hb dl_23 ?_
    rw [show Int32.ofNat L - 7 = iI ((L : Int) - 7) by rw [show Int32.ofNat L = iI (L : Nat) from nI_iI L, show (7 : Int32) = iI 7 from rfl, iI_sub]]
    refine lv_icmp_gt (tgt := 1457) hx hb dl_24 (by decide) (fun _ => ?_) (fun c1 => ?_)
    · refine lv_iconst (v := 1) hx hb dl_1457 (by decide) ?_
      refine va_forget (fun q hq => hS.2.2 q hq) ?_
      refine W.widen (k := 600000) (n := 7302250) (by omega) (by omega) ?_
      exact lw_ret hx hb hr hlocks dl_1458
    · rw [iI_lt (by omega) (by omega) (by omega) (by omega)] at c1
      have hi7 : i + 7 ≤ L := by omega
      have back : ∀ (hs' : List PS) (ρ' : Nat → Nat → Nat → Nat) (H' : Heap) (locs' : List Loc) (cells slots : Nat), cells ≤ C + 8 * (it + 1) → slots ≤ S + 292 * (it + 1) → INV hs' → wf hs' → RelH D aC ρ' hs' H' → ext ρ hs ρ' hs' H.size → H.size ≤ H'.size → va_S (fun q : Nat => s.heap.size ≤ q) s.heap H' locs' → W p l e room_1 s m #[Value.ref b] below meth c H' locs' cells slots (lw_Z below #[Value.ref b] s) (F0 m 1451 ls []) := by
        intro hs' ρ' H' locs' cells slots hc hsl inv' wf' r' e' z' s'
        refine W.widen (k := C + 8 * (it + 1)) (n := S + 292 * (it + 1)) hc hsl ?_
        refine lv_iinc (k := 3) (v := iI ((7 * (it + 1) : Nat))) (lv' := [(3, .int (iI ((7 * (it + 1) : Nat)))), (0, .ref b), (1, .ref (ρ 12 0 0)), (2, .ref (ρ 0 0 0))]) hx hb dl_1451 hl rfl (by rw [show Int32.ofInt 7 = iI 7 from rfl, iI_add]; refine congrArg iI ?_; omega) (by decide) rfl (fun ls' hl' => ?_)
        refine lv_goto (tgt := 18) hx hb dl_1454 (by decide) ?_
        refine ih (it + 1) (by omega) (by omega) hs' ρ' H' locs' ls' inv' wf' r' (fun q hq => hA q (zA_sub e' z' hq)) s' (Nat.lt_of_lt_of_le h12 (e'.1 12)) (Nat.lt_of_lt_of_le h0 (e'.1 0)) (Nat.lt_of_lt_of_le h6 (e'.1 6)) ?_
        rw [e'.2.1 12 0 0 h12, e'.2.1 0 0 0 h0]
        exact lv_sub hl' [1, 2, 3, 0] rfl
      have go : ∀ {iC iM xC xM mc ms pc0 off : Nat} {g : Bool} {ks : List Nat}, (∀ k ∈ ks, k % 10 ≤ 6) → lkC1 code pc0 ks xC xM g off = true → mc ≤ 8 → ms ≤ 292 → (xC, iC, xM, iM, ks.length) ∈ lTA → Two iC iM g mc ms (ks.map fun k => vI (aval xs i k)) hs → W p l e room_1 s m #[Value.ref b] below meth c H locs (C + 8 * it) (S + 292 * it) (lw_Z below #[Value.ref b] s) (F0 m pc0 ls []) := by
        intro iC iM xC xM mc ms pc0 off g ks k6 hck hmc hms hin two
        have al := List.all_eq_true.mp lt_all _ hin
        obtain ⟨al, a6⟩ := ck2 al
        obtain ⟨al, a5⟩ := ck2 al
        obtain ⟨al, a4⟩ := ck2 al
        obtain ⟨al, a3⟩ := ck2 al
        obtain ⟨a1, a2⟩ := ck2 al
        exact w_case (A := fun q : Nat => s.heap.size ≤ q) hx hb hml hown hts hKK hX hbl hbA hi7 hL hwf hR hS hA hl h12 h0 (by show 72 ≤ 2048; omega) (by show 4608 ≤ 84000; omega) ⟨by show _ ≤ 600000; omega, by show _ ≤ 7302250; omega⟩ k6 hck a1 a2 (Nat.eq_of_beq_eq_true a3) a4 a5 (Nat.eq_of_beq_eq_true a6) two (fun hs' ρ' H' locs' inv' wf' r' e' z' s' => back hs' ρ' H' locs' _ _ (by omega) (by omega) inv' wf' r' e' z' s')
      refine lv_aload_n hx hb dl_27 rfl hl0 ?_
      refine lv_iload_n hx hb dl_28 rfl hl3 ?_
      refine va_sld hx hb hX hbl hbA hS (vpk (by omega) (by omega)) dl_29 ?_
      refine lv_bipush (v := 63) hx hb dl_30 (by decide) ?_
      refine lv_iand hx hb dl_32 ?_
      generalize xs (iI ((i : Nat) : Int)).toNatClampNeg &&& 63 = x
      by_cases hout : x.toInt < 0 ∨ 33 < x.toInt
      · exact lv_tableOut (tgt := 1451) hx hb dl_33 hout (by decide) (back hs ρ H locs _ _ (by omega) (by omega) inv hwf hR ext_rf (Nat.le_refl _) hS)
      · obtain ⟨k, hk⟩ : ∃ k : Nat, x.toInt = (k : Int) := ⟨x.toInt.toNat, by omega⟩
        rcases (show k = 0 ∨ k = 1 ∨ k = 2 ∨ k = 3 ∨ k = 4 ∨ k = 5 ∨ k = 6 ∨ k = 7 ∨ k = 8 ∨ k = 9 ∨ k = 10 ∨ k = 11 ∨ k = 12 ∨ k = 13 ∨ k = 14 ∨ k = 15 ∨ k = 16 ∨ k = 17 ∨ k = 18 ∨ k = 19 ∨ k = 20 ∨ k = 21 ∨ k = 22 ∨ k = 23 ∨ k = 24 ∨ k = 25 ∨ k = 26 ∨ k = 27 ∨ k = 28 ∨ k = 29 ∨ k = 30 ∨ k = 31 ∨ k = 32 ∨ k = 33 by omega) with rfl | rfl | rfl | rfl | rfl | rfl | rfl | rfl | rfl | rfl | rfl | rfl | rfl | rfl | rfl | rfl | rfl | rfl | rfl | rfl | rfl | rfl | rfl | rfl | rfl | rfl | rfl | rfl | rfl | rfl | rfl | rfl | rfl | rfl
        · exact lv_tableIn (off := 151) (tgt := 184) hx hb dl_33 (by omega) (by omega) (by rw [hk]; rfl) (by decide) (go (ks := [1, 2, 3, 4, 5]) (by decide) lc_0 (by decide) (by decide) (by decide) (two_feed inv))
        · exact lv_tableIn (off := 214) (tgt := 247) hx hb dl_33 (by omega) (by omega) (by rw [hk]; rfl) (by decide) (go (ks := [1]) (by decide) lc_1 (by decide) (by decide) (by decide) (two_end inv))
        · exact lv_tableIn (off := 237) (tgt := 270) hx hb dl_33 (by omega) (by omega) (by rw [hk]; rfl) (by decide) (go (ks := []) (by decide) lc_2 (by decide) (by decide) (by decide) (two_book inv))
        · exact lv_tableIn (off := 250) (tgt := 283) hx hb dl_33 (by omega) (by omega) (by rw [hk]; rfl) (by decide) (go (ks := []) (by decide) lc_3 (by decide) (by decide) (by decide) (two_picture inv h6))
        · exact lv_tableIn (off := 263) (tgt := 296) hx hb dl_33 (by omega) (by omega) (by rw [hk]; rfl) (by decide) (go (ks := []) (by decide) lc_4 (by decide) (by decide) (by decide) (two_rules inv))
        · exact lv_tableIn (off := 276) (tgt := 309) hx hb dl_33 (by omega) (by omega) (by rw [hk]; rfl) (by decide) (go (ks := [1]) (by decide) lc_5 (by decide) (by decide) (by decide) (two_fault inv))
        · exact lv_tableIn (off := 299) (tgt := 332) hx hb dl_33 (by omega) (by omega) (by rw [hk]; rfl) (by decide) (go (ks := [1]) (by decide) lc_6 (by decide) (by decide) (by decide) (two_untell inv))
        · exact lv_tableIn (off := 322) (tgt := 355) hx hb dl_33 (by omega) (by omega) (by rw [hk]; rfl) (by decide) (go (ks := [1]) (by decide) lc_7 (by decide) (by decide) (by decide) (two_later inv))
        · exact lv_tableIn (off := 345) (tgt := 378) hx hb dl_33 (by omega) (by omega) (by rw [hk]; rfl) (by decide) (go (ks := [1, 2, 13]) (by decide) lc_8 (by decide) (by decide) (by decide) (two_speckless inv))
        · exact lv_tableIn (off := 404) (tgt := 437) hx hb dl_33 (by omega) (by omega) (by rw [hk]; rfl) (by decide) (go (ks := [1, 2, 3]) (by decide) lc_9 (by decide) (by decide) (by decide) (two_dots inv))
        · exact lv_tableIn (off := 447) (tgt := 480) hx hb dl_33 (by omega) (by omega) (by rw [hk]; rfl) (by decide) (go (ks := [1, 2, 3, 4]) (by decide) lc_10 (by decide) (by decide) (by decide) (two_dot inv))
        · exact lv_tableIn (off := 500) (tgt := 533) hx hb dl_33 (by omega) (by omega) (by rw [hk]; rfl) (by decide) (go (ks := [1, 2, 3]) (by decide) lc_11 (by decide) (by decide) (by decide) (two_point inv))
        · exact lv_tableIn (off := 543) (tgt := 576) hx hb dl_33 (by omega) (by omega) (by rw [hk]; rfl) (by decide) (go (ks := [1, 2]) (by decide) lc_12 (by decide) (by decide) (by decide) (two_length inv))
        · exact lv_tableIn (off := 576) (tgt := 609) hx hb dl_33 (by omega) (by omega) (by rw [hk]; rfl) (by decide) (go (ks := [1, 2, 3]) (by decide) lc_13 (by decide) (by decide) (by decide) (two_namings inv))
        · exact lv_tableIn (off := 619) (tgt := 652) hx hb dl_33 (by omega) (by omega) (by rw [hk]; rfl) (by decide) (go (ks := [1, 2, 3, 4]) (by decide) lc_14 (by decide) (by decide) (by decide) (two_named inv))
        · exact lv_tableIn (off := 672) (tgt := 705) hx hb dl_33 (by omega) (by omega) (by rw [hk]; rfl) (by decide) (go (ks := [1, 2, 3, 4]) (by decide) lc_15 (by decide) (by decide) (by decide) (two_odds inv))
        · exact lv_tableIn (off := 726) (tgt := 759) hx hb dl_33 (by omega) (by omega) (by rw [hk]; rfl) (by decide) (go (ks := [1, 2]) (by decide) lc_16 (by decide) (by decide) (by decide) (two_told inv))
        · exact lv_tableIn (off := 759) (tgt := 792) hx hb dl_33 (by omega) (by omega) (by rw [hk]; rfl) (by decide) (go (ks := [1, 2, 3, 4]) (by decide) lc_17 (by decide) (by decide) (by decide) (two_turn inv))
        · exact lv_tableIn (off := 813) (tgt := 846) hx hb dl_33 (by omega) (by omega) (by rw [hk]; rfl) (by decide) (go (ks := [1, 2, 3, 4, 5]) (by decide) lc_18 (by decide) (by decide) (by decide) (two_look inv))
        · exact lv_tableIn (off := 877) (tgt := 910) hx hb dl_33 (by omega) (by omega) (by rw [hk]; rfl) (by decide) (go (ks := [1, 2, 3]) (by decide) lc_19 (by decide) (by decide) (by decide) (two_stretch inv))
        · exact lv_tableIn (off := 921) (tgt := 954) hx hb dl_33 (by omega) (by omega) (by rw [hk]; rfl) (by decide) (go (ks := [1, 2, 3, 4, 5, 6]) (by decide) lc_20 (by decide) (by decide) (by decide) (two_followed inv))
        · exact lv_tableIn (off := 996) (tgt := 1029) hx hb dl_33 (by omega) (by omega) (by rw [hk]; rfl) (by decide) (go (ks := [1, 2, 3, 4, 5, 6]) (by decide) lc_21 (by decide) (by decide) (by decide) (two_follow inv))
        · exact lv_tableIn (off := 1071) (tgt := 1104) hx hb dl_33 (by omega) (by omega) (by rw [hk]; rfl) (by decide) (go (ks := [1, 2]) (by decide) lc_22 (by decide) (by decide) (by decide) (two_wanderers inv))
        · exact lv_tableIn (off := 1104) (tgt := 1137) hx hb dl_33 (by omega) (by omega) (by rw [hk]; rfl) (by decide) (go (ks := [1, 2, 3, 4, 5]) (by decide) lc_23 (by decide) (by decide) (by decide) (two_shift inv))
        · exact lv_tableIn (off := 1168) (tgt := 1201) hx hb dl_33 (by omega) (by omega) (by rw [hk]; rfl) (by decide) (go (ks := [1, 2, 3]) (by decide) lc_24 (by decide) (by decide) (by decide) (two_liar inv))
        · exact lv_tableIn (off := 1211) (tgt := 1244) hx hb dl_33 (by omega) (by omega) (by rw [hk]; rfl) (by decide) (go (ks := [1]) (by decide) lc_25 (by decide) (by decide) (by decide) (two_looks inv))
        · exact lv_tableIn (off := 1234) (tgt := 1267) hx hb dl_33 (by omega) (by omega) (by rw [hk]; rfl) (by decide) (go (ks := [1]) (by decide) lc_26 (by decide) (by decide) (by decide) (two_chosen inv))
        · exact lv_tableIn (off := 1257) (tgt := 1290) hx hb dl_33 (by omega) (by omega) (by rw [hk]; rfl) (by decide) (go (ks := [1]) (by decide) lc_27 (by decide) (by decide) (by decide) (two_held inv))
        · exact lv_tableIn (off := 1280) (tgt := 1313) hx hb dl_33 (by omega) (by omega) (by rw [hk]; rfl) (by decide) (go (ks := []) (by decide) lc_28 (by decide) (by decide) (by decide) (two_doubles inv))
        · exact lv_tableIn (off := 1293) (tgt := 1326) hx hb dl_33 (by omega) (by omega) (by rw [hk]; rfl) (by decide) (go (ks := [1, 2]) (by decide) lc_29 (by decide) (by decide) (by decide) (two_trust inv))
        · exact lv_tableIn (off := 1326) (tgt := 1359) hx hb dl_33 (by omega) (by omega) (by rw [hk]; rfl) (by decide) (go (ks := [1]) (by decide) lc_30 (by decide) (by decide) (by decide) (two_believed inv))
        · exact lv_tableIn (off := 1349) (tgt := 1382) hx hb dl_33 (by omega) (by omega) (by rw [hk]; rfl) (by decide) (go (ks := [1]) (by decide) lc_31 (by decide) (by decide) (by decide) (two_image inv h6))
        · exact lv_tableIn (off := 1372) (tgt := 1405) hx hb dl_33 (by omega) (by omega) (by rw [hk]; rfl) (by decide) (go (ks := [1]) (by decide) lc_32 (by decide) (by decide) (by decide) (two_back inv))
        · exact lv_tableIn (off := 1395) (tgt := 1428) hx hb dl_33 (by omega) (by omega) (by rw [hk]; rfl) (by decide) (go (ks := [1]) (by decide) lc_33 (by decide) (by decide) (by decide) (two_about inv))
