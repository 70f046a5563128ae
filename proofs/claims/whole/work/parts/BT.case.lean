/-! ===== the law's code: one case of its switch ===== -/
def aval (xs : Nat → Int32) (i k : Nat) : Int32 := bif Nat.ble 10 k then oI (decide (¬ xs (i + k % 10) = 0)) else xs (i + k % 10)
def alen (k : Nat) : Nat := bif Nat.ble 10 k then 13 else bif Nat.beq k 6 then 6 else 5
def lkA1 (cc : ByteArray) (pc k : Nat) : Bool := decide (decode cc pc = .ok (.aload_n 0, 1)) && decide (decode cc (pc + 1) = .ok (.iload_n 3, 1)) && (bif Nat.beq k 6 then (decide (decode cc (pc + 2) = .ok (.bipush 6, 2)) && decide (decode cc (pc + 4) = .ok (.iadd, 1)) && decide (decode cc (pc + 5) = .ok (.iaload, 1))) else (decide (decode cc (pc + 2) = .ok (.iconst ((k % 10 : Nat) : Int), 1)) && decide (decode cc (pc + 3) = .ok (.iadd, 1)) && decide (decode cc (pc + 4) = .ok (.iaload, 1)))) && (bif Nat.ble 10 k then (decide (decode cc (pc + 5) = .ok (.ifCond .eq 7, 3)) && decide (decode cc (pc + 8) = .ok (.iconst 1, 1)) && decide (decode cc (pc + 9) = .ok (.goto 4, 3)) && decide (decode cc (pc + 12) = .ok (.iconst 0, 1))) else true)
def lkAs (cc : ByteArray) : Nat → List Nat → Bool
  | _, [] => true
  | pc, k :: t => lkA1 cc pc k && lkAs cc (pc + alen k) t
def pcAs : Nat → List Nat → Nat
  | pc, [] => pc
  | pc, k :: t => pcAs (pc + alen k) t
def lkC1 (cc : ByteArray) (pc0 : Nat) (ks : List Nat) (xC xM : Nat) (g : Bool) (off : Nat) : Bool := decide (decode cc pc0 = .ok (.aload_n 1, 1)) && lkAs cc (pc0 + 1) ks && decide (decode cc (pcAs (pc0 + 1) ks) = .ok (.invokevirtual xC, 3)) && decide (decode cc (pcAs (pc0 + 1) ks + 3) = .ok (.aload_n 2, 1)) && lkAs cc (pcAs (pc0 + 1) ks + 4) ks && decide (decode cc (pcAs (pcAs (pc0 + 1) ks + 4) ks) = .ok (.invokevirtual xM, 3)) && (bif g then (decide (decode cc (pcAs (pcAs (pc0 + 1) ks + 4) ks + 3) = .ok (.lcmp, 1)) && decide (decode cc (pcAs (pcAs (pc0 + 1) ks + 4) ks + 4) = .ok (.ifCond .eq (off : Int), 3)) && Nat.beq (pcAs (pcAs (pc0 + 1) ks + 4) ks + 4 + off) 1451) else (decide (decode cc (pcAs (pcAs (pc0 + 1) ks + 4) ks + 3) = .ok (.if_icmp .eq (off : Int), 3)) && Nat.beq (pcAs (pcAs (pc0 + 1) ks + 4) ks + 3 + off) 1451))
section LAW
variable {p : Program} {l : Launch} {e : Env} {s : State} {m : MethodId} {args : Array Value} {below : List Frame} {meth : Method} {c : Code} {H : Heap} {locs : List Loc} {cells slots : Nat} {Q : State → Prop} {ls : Array Slot} {D : va_G} {aC : Nat → ClassId} {ρ : Nat → Nat → Nat → Nat} {hs : List PS} {b L i : Nat} {xs : Nat → Int32} {A : Nat → Prop} {R : Room} {cc : ByteArray}
theorem w_arg {pc k : Nat} {st : List Value} (hx : p.tables.exec = Jvm.exec) (hb : c.code = cc) (hX : va_X b L xs s s.heap) (hbl : b < s.heap.size) (hbA : ¬ A b) (hS : va_S A s.heap H locs) (hl0 : ls[0]? = some (.val (.ref b))) (hl3 : ls[3]? = some (.val (.int (iI (i : Nat))))) (hi : i + 7 ≤ L) (hL : L ≤ 3584) (hk : k % 10 ≤ 6) (hck : lkA1 cc pc k = true)
    (kk : W p l e R s m args below meth c H locs cells slots Q (F0 m (pc + alen k) ls (.int (aval xs i k) :: st))) : W p l e R s m args below meth c H locs cells slots Q (F0 m pc ls st) := by
  obtain ⟨hck, h4⟩ := ck2 hck
  obtain ⟨hck, h3⟩ := ck2 hck
  obtain ⟨h1, h2⟩ := ck2 hck
  have h1 := of_decide_eq_true h1
  have h2 := of_decide_eq_true h2
  refine lv_aload_n hx hb h1 rfl hl0 ?_
  refine lv_iload_n hx hb h2 rfl hl3 ?_
  have vin : vp_in (iI ((i + k % 10 : Nat))) L := vpk (by omega) (by omega)
  have ecl : (iI ((i + k % 10 : Nat))).toNatClampNeg = i + k % 10 := by rw [iI_cl (by omega) (by omega)]; exact Int.toNat_natCast _
  cases c6 : Nat.beq k 6 with
  | true =>
    have ek := Nat.eq_of_beq_eq_true c6
    subst ek
    obtain ⟨h3, h7⟩ := ck2 h3
    obtain ⟨h5, h6⟩ := ck2 h3
    have h5 := of_decide_eq_true h5
    have h6 := of_decide_eq_true h6
    have h7 := of_decide_eq_true h7
    refine lv_bipush (v := 6) hx hb h5 (by decide) ?_
    refine lv_iadd hx hb h6 ?_
    rw [show iI (i : Nat) + 6 = iI ((i + 6 % 10 : Nat)) from iI_add (i : Nat) 6]
    refine va_sld hx hb hX hbl hbA hS vin h7 ?_
    rw [ecl]
    exact kk
  | false =>
    rw [c6, cond_false] at h3
    obtain ⟨h3, h7⟩ := ck2 h3
    obtain ⟨h5, h6⟩ := ck2 h3
    have h5 := of_decide_eq_true h5
    have h6 := of_decide_eq_true h6
    have h7 := of_decide_eq_true h7
    refine lv_iconst (v := iI ((k % 10 : Nat) : Int)) hx hb h5 rfl ?_
    refine lv_iadd hx hb h6 ?_
    rw [show iI (i : Nat) + iI ((k % 10 : Nat) : Int) = iI ((i + k % 10 : Nat)) from iI_add (i : Nat) ((k % 10 : Nat) : Int)]
    refine va_sld hx hb hX hbl hbA hS vin h7 ?_
    rw [ecl]
    cases c10 : Nat.ble 10 k with
    | false =>
      have e1 : aval xs i k = xs (i + k % 10) := by unfold aval; rw [c10]; rfl
      have e2 : alen k = 5 := by unfold alen; rw [c10, c6]; rfl
      rw [e1, e2] at kk
      exact kk
    | true =>
      rw [c10, cond_true] at h4
      obtain ⟨h4, g4⟩ := ck2 h4
      obtain ⟨h4, g3⟩ := ck2 h4
      obtain ⟨g1, g2⟩ := ck2 h4
      have g1 := of_decide_eq_true g1
      have g2 := of_decide_eq_true g2
      have g3 := of_decide_eq_true g3
      have g4 := of_decide_eq_true g4
      have e1 : aval xs i k = oI (decide (¬ xs (i + k % 10) = 0)) := by unfold aval; rw [c10]; rfl
      have e2 : alen k = 13 := by unfold alen; rw [c10]; rfl
      rw [e1, e2] at kk
      refine lv_if_eq (tgt := pc + 12) hx hb g1 (by omega) (fun q => ?_) (fun q => ?_)
      · refine lv_iconst (v := 0) hx hb g4 (by decide) ?_
        rw [decide_eq_false (fun g => g q)] at kk
        exact kk
      · refine lv_iconst (v := 1) hx hb g2 (by decide) ?_
        refine lv_goto (tgt := pc + 13) hx hb g3 (by omega) ?_
        rw [decide_eq_true q] at kk
        exact kk
theorem w_args (hx : p.tables.exec = Jvm.exec) (hb : c.code = cc) (hX : va_X b L xs s s.heap) (hbl : b < s.heap.size) (hbA : ¬ A b) (hS : va_S A s.heap H locs) (hl0 : ls[0]? = some (.val (.ref b))) (hl3 : ls[3]? = some (.val (.int (iI (i : Nat))))) (hi : i + 7 ≤ L) (hL : L ≤ 3584) : ∀ (ks : List Nat) (pc : Nat) (st : List Value), (∀ k ∈ ks, k % 10 ≤ 6) → lkAs cc pc ks = true →
    W p l e R s m args below meth c H locs cells slots Q (F0 m (pcAs pc ks) ls ((ks.map fun k => Value.int (aval xs i k)).reverse ++ st)) → W p l e R s m args below meth c H locs cells slots Q (F0 m pc ls st)
  | [], pc, st, _, _, kk => kk
  | k :: t, pc, st, h6, hck, kk => by
    obtain ⟨h1, h2⟩ := ck2 hck
    refine w_arg hx hb hX hbl hbA hS hl0 hl3 hi hL (h6 k (List.mem_cons_self ..)) h1 ?_
    refine w_args hx hb hX hbl hbA hS hl0 hl3 hi hL t (pc + alen k) (.int (aval xs i k) :: st) (fun k' hk' => h6 k' (List.mem_cons_of_mem _ hk')) h2 ?_
    rw [List.map_cons, List.reverse_cons, List.append_assoc] at kk
    exact kk
theorem zc_args (ρ : Nat → Nat → Nat → Nat) (f : Nat → Int32) (ks : List Nat) : (ks.map fun k => vI (f k)).map (zc ρ) = ks.map fun k => Value.int (f k) := by rw [List.map_map]; rfl
theorem w_case {iC iM xC xM mc ms pc0 off : Nat} {g : Bool} {ks : List Nat} (hx : p.tables.exec = Jvm.exec) (hb : c.code = cc) (hml : c.maxLocals = 4) (hown : s.vm.findClass (rn 13) = some m.cls) (hts : ∀ w ∈ GW, w.before args s = true) (hKK : KK D aC s) (hX : va_X b L xs s s.heap) (hbl : b < s.heap.size) (hbA : ¬ A b) (hi : i + 7 ≤ L) (hL : L ≤ 3584)
    (hwf : wf hs) (hR : RelH D aC ρ hs H) (hS : va_S A s.heap H locs) (hA : ∀ q, zA ρ hs H.size q → A q) (hl : lv_has ls 4 [(0, .ref b), (1, .ref (ρ 12 0 0)), (2, .ref (ρ 0 0 0)), (3, .int (iI (i : Nat)))]) (h12 : 0 < cn hs 12) (h0 : 0 < cn hs 0)
    (hfr : 72 ≤ R.frames) (hlo : 4608 ≤ R.locals) (hcs : cells + mc ≤ R.cells ∧ slots + ms ≤ R.slots)
    (h6 : ∀ k ∈ ks, k % 10 ≤ 6) (hck : lkC1 cc pc0 ks xC xM g off = true) (c1 : inCT 13 xC iC = true) (c2 : inMV iC (ks.length + 1) = true) (c3 : (mt iC).2.2.2.2.2.2 = 12) (c4 : inCT 13 xM iM = true) (c5 : inMV iM (ks.length + 1) = true) (c6 : (mt iM).2.2.2.2.2.2 = 0)
    (two : Two iC iM g mc ms (ks.map fun k => vI (aval xs i k)) hs)
    (kk : ∀ (hs' : List PS) (ρ' : Nat → Nat → Nat → Nat) (H' : Heap) (locs' : List Loc), INV hs' → wf hs' → RelH D aC ρ' hs' H' → ext ρ hs ρ' hs' H.size → H.size ≤ H'.size → va_S A s.heap H' locs' → W p l e R s m args below meth c H' locs' (cells + mc) (slots + ms) Q (F0 m 1451 ls [])) :
    W p l e R s m args below meth c H locs cells slots Q (F0 m pc0 ls []) := by
  obtain ⟨hck, k7⟩ := ck2 hck
  obtain ⟨hck, k6⟩ := ck2 hck
  obtain ⟨hck, k5⟩ := ck2 hck
  obtain ⟨hck, k4⟩ := ck2 hck
  obtain ⟨hck, k3⟩ := ck2 hck
  obtain ⟨k1, k2⟩ := ck2 hck
  have k1 := of_decide_eq_true k1
  have k3 := of_decide_eq_true k3
  have k4 := of_decide_eq_true k4
  have k6 := of_decide_eq_true k6
  obtain ⟨n1, hn1, mb1, in1, se1, -⟩ := any_MV c2
  obtain ⟨n2, hn2, mb2, in2, se2, -⟩ := any_MV c5
  have hl0 : ls[0]? = some (.val (.ref b)) := lv_at hl 0 rfl
  have hl3 : ls[3]? = some (.val (.int (iI (i : Nat)))) := lv_at hl 3 rfl
  refine lv_aload_n hx hb k1 rfl (lv_at hl 1 rfl) ?_
  refine w_args hx hb hX hbl hbA hS hl0 hl3 hi hL ks (pc0 + 1) _ h6 k2 ?_
  rw [← zc_args ρ (aval xs i) ks]
  refine w_callv (own := 13) (rest := []) (mc := mc) (ms := ms) (d := 70) hx hb hml hown hts hKK hwf hR hS hA hl.1 k3 (any_CT c1) mb1 in1 se1 c3 (by rw [List.length_map]; omega) (show vc hs 12 0 0 from ⟨by decide, h12⟩) (fun v hv => ?_) (by show 0 ≤ 8; omega) (by omega) (by omega) hcs two (fun r hs1 ρ1 H1 locs1 q1 r1 w1 v1 e1 z1 _ s1 => ?_)
  · obtain ⟨k, _, hk⟩ := List.mem_map.mp hv
    rw [← hk]; exact trivial
  have hA1 : ∀ q, zA ρ1 hs1 H1.size q → A q := fun q hq => hA q (zA_sub e1 z1 hq)
  have h0' : 0 < cn hs1 0 := Nat.lt_of_lt_of_le h0 (e1.1 0)
  have er : ρ1 0 0 0 = ρ 0 0 0 := e1.2.1 0 0 0 h0
  rw [show ∀ x : List Value, x ++ [] = x from List.append_nil]
  refine lv_aload_n hx hb k4 rfl (lv_at hl 2 rfl) ?_
  refine w_args hx hb hX hbl hbA s1 hl0 hl3 hi hL ks (pcAs (pc0 + 1) ks + 4) _ h6 k5 ?_
  rw [← zc_args ρ1 (aval xs i) ks, ← er]
  have key : ∀ (rv : List Value), rv = (Option.map (zc ρ1) r).toList → W p l e R s m args below meth c H1 locs1 (cells + mc) (slots + ms) Q (F0 m (pcAs (pcAs (pc0 + 1) ks + 4) ks) ls (((ks.map fun k => vI (aval xs i k)).map (zc ρ1)).reverse ++ .ref (ρ1 0 0 0) :: rv)) := by
    intro rv hrv
    refine w_callv (own := 13) (rest := rv) (mc := 0) (ms := 0) (d := 70) hx hb hml hown hts hKK w1 r1 s1 hA1 hl.1 k6 (any_CT c4) mb2 in2 se2 c6 (by rw [List.length_map]; omega) (show vc hs1 0 0 0 from ⟨by decide, h0'⟩) (fun v hv => ?_) ?_ (by omega) (by omega) hcs q1 (fun r2 hs2 ρ2 H2 locs2 q2 r2' w2 v2 e2 z2 _ s2 => ?_)
    · obtain ⟨k, _, hk⟩ := List.mem_map.mp hv
      rw [← hk]; exact trivial
    · rw [hrv]
      cases r with
      | none => show 0 ≤ 8; omega
      | some v =>
        show (zc ρ1 v).category + 0 ≤ 8
        rw [cat_zc]; cases isL v <;> (show _ ≤ 8; decide)
    · obtain ⟨er2, hk, inv⟩ := q2
      subst er2
      have fin := kk hs2 ρ2 H2 locs2 inv w2 r2' (ext_trans e1 e2 z1) (Nat.le_trans z1 z2) s2
      cases g with
      | true =>
        obtain ⟨x, hx'⟩ := hk
        subst hx'
        subst hrv
        rw [cond_true] at k7
        obtain ⟨k7, k9⟩ := ck2 k7
        obtain ⟨k7, k8⟩ := ck2 k7
        have k7 := of_decide_eq_true k7
        have k8 := of_decide_eq_true k8
        have k9 := Nat.eq_of_beq_eq_true k9
        show W p l e R s m args below meth c H2 locs2 (cells + mc) (slots + ms) Q (F0 m (pcAs (pcAs (pc0 + 1) ks + 4) ks + 3) ls [.long x, .long x])
        refine W.lcmp hx hb k7 ?_
        refine lv_if_eq (tgt := 1451) hx hb k8 (by omega) (fun _ => fin) (fun q => absurd (lcmp_eq.mpr rfl) q)
      | false =>
        obtain ⟨x, hx'⟩ := hk
        subst hx'
        subst hrv
        rw [cond_false] at k7
        obtain ⟨k7, k9⟩ := ck2 k7
        have k7 := of_decide_eq_true k7
        have k9 := Nat.eq_of_beq_eq_true k9
        show W p l e R s m args below meth c H2 locs2 (cells + mc) (slots + ms) Q (F0 m (pcAs (pcAs (pc0 + 1) ks + 4) ks + 3) ls [.int x, .int x])
        refine lv_icmp_eq (tgt := 1451) hx hb k7 (by omega) (fun _ => fin) (fun q => absurd rfl q)
  exact key _ rfl
end LAW
