/-! ===== from the law's entry to its end ===== -/
theorem z13_vc {c j a : Nat} (h : vc z13 c j a) : False := by
  have h1 := vc_lt h
  have : cn z13 c = 0 := by
    have hc := h1.1
    match c, hc with
    | 0, _ => rfl
    | 1, _ => rfl
    | 2, _ => rfl
    | 3, _ => rfl
    | 4, _ => rfl
    | 5, _ => rfl
    | 6, _ => rfl
    | 7, _ => rfl
    | 8, _ => rfl
    | 9, _ => rfl
    | 10, _ => rfl
    | 11, _ => rfl
    | 12, _ => rfl
  have := h1.2
  omega
theorem whole_start {p : Program} {e : Env} {s : State} {m : MethodId} {below : List Frame} {meth : Method} {c : Code} (l : Launch) {b L : Nat} {xs : Nat → Int32} (hL : L ≤ 3584) (C0 : lw_At p s m meth c b L xs) : W p l e room_1 s m #[Value.ref b] below meth c s.heap [] 0 0 (lw_Z below #[Value.ref b] s) (entryFrame m ([Value.ref b] : List Value).toArray 4) := by
  obtain ⟨hx, hb, hr, hml, hown, hts, hX, hbl, hlocks, hgv⟩ := id C0
  obtain ⟨D, aC, hKK, hAO⟩ := start_K hts
  obtain ⟨aK, aV, v9, hE, hVR⟩ := start_E hts hgv
  have hown : s.vm.findClass (rn 13) = some m.cls := hown
  have hg : ∀ w ∈ GW, w.before #[Value.ref b] s = true := fun w hw => hts w (List.mem_filter.mp hw).1
  have hl := lv_entry ([.ref b]) (n := 4) (Nat.le_of_ble_eq_true rfl)
  rw [lg_entry_eq]
  generalize (lg_sl ([.ref b]) ++ List.replicate (4 - (lg_sl ([.ref b])).length) Slot.unset).toArray = ls at hl ⊢
  have hl : lv_has ls 4 [(0, .ref b)] := hl
  have hR0 : RelH D aC (fun _ _ _ => 0) z13 s.heap := ⟨fun c j a e h => (z13_vc h).elim, fun c j a c' j' a' h => (z13_vc h).elim⟩
  have hA0 : ∀ q, zA (fun _ _ _ => 0) z13 s.heap.size q → s.heap.size ≤ q := fun q hq => by
    rcases hq with ⟨c, j, a, h, _⟩ | h
    · exact (z13_vc h).elim
    · exact h
  refine w_newX (own := 13) (c := 12) (M := mi_12) (d := 8) (mc := 200) (ms := 8000) (A := fun q : Nat => s.heap.size ≤ q) (rest := []) (QI := fun h => ∃ T B1 B, h = hsF T B pT4 pS3 ∧ OwC T ∧ Fr [] [] [] [12] (nwO zPS fi_1 (fun _ => none)) T ∧ SsC 0 [] B1 ∧ TdC 0 plain B1 ∧ FrB 0 (nwO zPS fi_2 (fun _ => none)) B1 ∧ FrB 1 (nwO B1 fi_2 (fun _ => none)) B) hx hb hml hown hg hKK (fun _ => hAO) hR0 va_S.rf hA0 hl.1 dl_0 dl_3 dl_4 (gw_in wl_1 rfl) (Or.inl (gw_in wl_2 rfl)) ib_12 (by show 0 ≤ 7; omega) (by show 10 ≤ 2048; omega) (by show 640 ≤ 84000; omega) (by show 201 ≤ 600000; omega) (by show 0 + nf 12 + 8000 ≤ 7302250; decide +kernel) hE hVR (Nat.le_refl _) (fun c j a h => (z13_vc h).elim) (ti_12 (d := 0) (fun T B1 B q1 q2 q3 q4 q5 _ _ q8 => ⟨T, B1, B, rfl, q1, q2, q3, q4, q5, q8⟩)) (fun hs1 ρ1 H1 locs1 q1 w1 r1 e1 z1 _ s1 => ?_)
  obtain ⟨T, B1, B, rfl, qO, qT, qs, qt, qB1, qB⟩ := q1
  refine lv_astore_n (lv' := [(1, .ref (ρ1 12 0 0)), (0, .ref b)]) hx hb dl_7 rfl hl (by decide) rfl (fun ls1 hl1 => ?_)
  have hA1 : ∀ q, zA ρ1 (hsF T B pT4 pS3) H1.size q → s.heap.size ≤ q := fun q hq => hA0 q (zA_sub e1 z1 hq)
  refine w_new (own := 13) (c := 0) (M := mi_0) (d := 2) (mc := sumC ops_0) (ms := sumS 0 ops_0) (A := fun q : Nat => s.heap.size ≤ q) (rest := []) (QI := fun h => INV h ∧ 0 < cn h 12 ∧ 0 < cn h 0 ∧ 0 < cn h 6) hx hb hml hown hg hKK (fun _ => hAO) r1 s1 hA1 hl1.1 dl_8 dl_11 dl_12 (gw_in wl_3 rfl) (Or.inl (gw_in wl_4 rfl)) ib_0 (by show 0 ≤ 7; omega) (by show 4 ≤ 2048; omega) (by show 256 ≤ 84000; omega) (by rw [sz_0.1]; show 0 + 1 + 200 + 1 + 54 ≤ 600000; omega) (by rw [sz_0.2]; show 0 + nf 12 + 8000 + nf 0 + 20996 ≤ 7302250; decide +kernel) (ti_0 (d := 0) w1 rfl (fun P' a1 f1 => ⟨inv_0 qO qT qt qs qB1 qB a1 f1, (show 0 < gN pS3 by decide), (show 0 < gN P' by rw [f1.1]; decide), (show 0 < gN pT4 by decide)⟩)) (fun hs2 ρ2 H2 locs2 q2 w2 r2 e2 z2 _ s2 => ?_)
  obtain ⟨inv, c12, c0, c6⟩ := q2
  refine lv_astore_n (lv' := [(2, .ref (ρ2 0 0 0)), (1, .ref (ρ1 12 0 0)), (0, .ref b)]) hx hb dl_15 rfl hl1 (by decide) rfl (fun ls2 hl2 => ?_)
  refine lv_iconst (v := 0) hx hb dl_16 (by decide) ?_
  refine lv_istore_n (lv' := [(3, .int 0), (2, .ref (ρ2 0 0 0)), (1, .ref (ρ1 12 0 0)), (0, .ref b)]) hx hb dl_17 rfl hl2 (by decide) rfl (fun ls3 hl3 => ?_)
  have er : ρ2 12 0 0 = ρ1 12 0 0 := e2.2.1 12 0 0 (show 0 < gN pS3 by decide)
  refine W.widen (k := 2000 + 8 * 0) (n := 100000 + 292 * 0) (by rw [sz_0.1]; omega) (by rw [sz_0.2]; show 0 + nf 12 + 8000 + nf 0 + 20996 ≤ 100000; decide +kernel) ?_
  exact law_loop hL C0 hKK (C := 2000) (S := 100000) (Nat.le_refl _) (Nat.le_refl _) 513 0 rfl (Nat.zero_le _) hs2 ρ2 H2 locs2 ls3 inv w2 r2 (fun q hq => hA1 q (zA_sub e2 z2 hq)) s2 c12 c0 c6 (by rw [er]; exact lv_sub hl3 [3, 2, 1, 0] rfl)
