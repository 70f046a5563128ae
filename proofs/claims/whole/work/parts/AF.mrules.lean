/-! ===== RULES: the Model ===== -/
def RlM (rs : List RLt) (u : Nat) (P : PS) : Prop := gI P 0 83 = iI (rs.length : Nat) ∧ gI P 0 84 = iI (u : Nat) ∧ (∀ i, i < (cds rs).length → gA P 0 73 i = iI ((cds rs).getD i (0, 0)).1 ∧ (((cds rs).getD i (0, 0)).1 = 0 → gA P 0 74 i = iI ((cds rs).getD i (0, 0)).2)) ∧ (∀ r, r < rs.length → gA P 0 76 r = iI (rs.getD r (0, [])).1) ∧ ∀ r, r ≤ rs.length → 0 < rs.length → gA P 0 75 r = iI ((cds (rs.take r)).length : Nat)
abbrev rmI : List Nat := [4, 6, 7, 8, 2, 3, 80, 82, 85, 86, 81, 5, 1, 10]
abbrev rlI : List Nat := [4, 6, 7, 8, 2, 3, 80, 82, 85, 86, 81, 5, 1, 10, 83, 84]
abbrev rlA : List Nat := [69, 70, 77, 71, 72, 73, 74, 75, 76]
abbrev ruA : List Nat := [73, 74, 75, 76]
theorem M_rl {d n : Nat} {b : Nat → Int} {o : Except PE (List RLt × Nat)} {P0 : PS} {R : List PS} {Q : Option AV → List PS → Prop} (hn : n ≤ 400)
    (hy : ∀ rs u P', o = .ok (rs, u) → MnM u (cds rs) P' → NrM rs P' → rs.length ≤ 6 → 3 * (cds rs).length ≤ 400 + 6 * u → u ≤ 40 → gI P' 0 2 = iI 0 ∧ gI P' 0 3 = iI (-1) → Fr mrI [9] mrA [] P0 P' → cX12_rules_73 (0, 0, 0, 0) (d + 5) (iI ((0 : Nat) : Int)) P' R Q)
    (hno : ∀ e P', o = .error e → FaM e P' → Fr mrI [9] mrA [] P0 P' → Q (some (vI (iI (-1)))) (P' :: R)) :
    ∀ (f : Nat) (rs : List RLt) (u q : Nat) (P : PS), RlsR b n f rs u q o → PrM true b n q P → MnM u (cds rs) P → NrM rs P → rs.length ≤ 6 → u ≤ 40 → 3 * (cds rs).length ≤ q + 6 * u → Fr mrI [9] mrA [] P0 P → cX12_rules_41 (0, 0, 0, 0) (d + 5) P R Q := by
  intro f
  induction f with
  | zero => intro rs u q P h; exact h.elim
  | succ f ih =>
    intro rs u q P h hp hm hr h6 hu hl hf
    have hq := hp.2.2.2.1
    refine gX12_rules_41 ?_
    unfold fX12_rules_41
    have s0 : gI P 0 6 = (0 : Int32) ↔ (tkq b n q).1 = 0 := hp.srt (k := 0) (by omega)
    have f0 : gI P 0 2 = iI 0 := hp.2.2.1
    rw [s0, f0]
    refine ⟨fun g => absurd rfl g, fun _ => ⟨fun c => ⟨fun _ => ?_, fun g => absurd (by decide) g⟩, fun c => ?_⟩⟩
    · rcases h with ⟨_, ho⟩ | ⟨g, _⟩
      · exact hy rs u P ho hm hr h6 (by omega) hu ⟨f0, hp.2.2.2.2⟩ hf
      · exact absurd c g
    · rcases h with ⟨g, _⟩ | ⟨_, h⟩
      · exact absurd g c
      · have bad : ∀ (e : PE) (P' : PS), o = .error e → FaM e P' → Fr mrI [9] mrA [] P P' → cX12_rules_41 (0, 0, 0, 0) (d + 5) P' R Q := fun e P' ho fa f' => by
          refine gX12_rules_41 ?_
          unfold fX12_rules_41
          have nl := fa.nl
          refine ⟨fun _ => ⟨fun g => absurd g nl, fun _ => hno e P' ho fa (hf.trs f')⟩, fun g => absurd (by rw [g]; decide) nl⟩
        rcases h with ⟨e, hR, ho⟩ | ⟨rs', u', q', hR, h'⟩
        · refine M_readRule hn hp hm hr h6 hu hl hR (fun rs' u' q' P' eo => by cases eo) (fun e' P' eo fa f' => ?_)
          dsimp only [hx1, rV]
          cases eo
          exact bad e P' ho fa f'
        · refine M_readRule hn hp hm hr h6 hu hl hR (fun rs'' u'' q'' P' eo p' m' r' h6' hu' hl' f' => ?_) (fun e' P' eo => by cases eo)
          dsimp only [hx1, rV]
          cases eo
          exact ih rs' u' q' P' h' p' m' r' h6' hu' hl' (hf.trs f')
theorem M_r113 {d u : Nat} {rs : List RLt} {P0 : PS} {R : List PS} {Q : Option AV → List PS → Prop} (h6 : rs.length ≤ 6) (hm : MnM u (cds rs) P0) (hr : NrM rs P0) (hy : ∀ P', RlM rs u P' → Fr [83, 84] [] ruA [] P0 P' → Q (some (vI (iI (rs.length : Nat)))) (P' :: R)) :
    ∀ (m k : Nat) (P : PS), k + m = rs.length → (∀ i, i < (cds rs).length → gA P 0 73 i = iI ((cds rs).getD i (0, 0)).1 ∧ (((cds rs).getD i (0, 0)).1 = 0 → gA P 0 74 i = iI ((cds rs).getD i (0, 0)).2)) → (∀ r, r < k → gA P 0 76 r = iI (rs.getD r (0, [])).1) → (∀ r, r ≤ k → 0 < k → gA P 0 75 r = iI ((cds (rs.take r)).length : Nat)) → Fr [] [] ruA [] P0 P → cX12_rules_113 (0, 0, 0, 0) d (iI (k : Nat)) P R Q := by
  intro m
  induction m with
  | zero =>
    intro k P hk hw ht hb hf
    have : k = rs.length := by omega
    subst this
    refine gX12_rules_113 ?_
    unfold fX12_rules_113
    have e81 : gI P 0 81 = iI (rs.length : Nat) := by rw [hf.2.1 _ (by simp)]; exact hr.1
    have e82 : gI P 0 82 = iI (u : Nat) := by rw [hf.2.1 _ (by simp)]; exact hm.2.2
    rw [e81, e82, iI_le (by omega) (by omega) (by omega) (by omega)]
    exact ⟨fun _ => hy _ ⟨rfl, rfl, hw, ht, hb⟩ (((hf.mono (by simp) (by simp) (by simp) (by simp)).sI (by simp)).sI (by simp)), fun g => absurd (by omega) g⟩
  | succ m ih =>
    intro k P hk hw ht hb hf
    refine gX12_rules_113 ?_
    unfold fX12_rules_113
    have e81 : gI P 0 81 = iI (rs.length : Nat) := by rw [hf.2.1 _ (by simp)]; exact hr.1
    have b1 : gA P 0 71 k = iI ((cds (rs.take k)).length : Nat) := by rw [hf.2.2.2.1 _ _ (by simp)]; exact hr.2.2 k (by omega) (by omega)
    have b2 : gA P 0 71 (k + 1) = iI ((cds (rs.take (k + 1))).length : Nat) := by rw [hf.2.2.2.1 _ _ (by simp)]; exact hr.2.2 (k + 1) (by omega) (by omega)
    have b3 : gA P 0 72 k = iI (rs.getD k (0, [])).1 := by rw [hf.2.2.2.1 _ _ (by simp)]; exact hr.2.1 k (by omega)
    rw [e81, iI_le (by omega) (by omega) (by omega) (by omega), show iI (k : Nat) + 1 = iI ((k + 1 : Nat)) from iI_add _ 1, iI_cl (a := (k : Nat)) (by omega) (by omega), iI_cl (a := ((k + 1 : Nat) : Int)) (by omega) (by omega), Int.toNat_natCast, Int.toNat_natCast, b1, b2, b3]
    have v7 : vp_in (iI (k : Nat)) 7 := vpk (by omega) (by omega)
    have v8 : vp_in (iI ((k + 1 : Nat))) 7 := vpk (by omega) (by omega)
    have v6 : vp_in (iI (k : Nat)) 6 := vpk (by omega) (by omega)
    refine ⟨fun g => absurd g (by omega), fun _ => ⟨v7, v7, v8, v8, v6, v6, ?_⟩⟩
    refine ih (k + 1) _ (by omega) hw (fun r hr' => ?_) (fun r hr' _ => ?_) (((hf.sA (by simp)).sA (by simp)).sA (by simp))
    · rw [gA_sA, if_pos rfl, if_pos rfl]
      by_cases c : r = k
      · rw [if_pos c, c]
      · rw [if_neg c]; exact ht r (by omega)
    · show gA (sA (sA P 0 75 k _) 0 75 (k + 1) _) 0 75 r = _
      rw [gA_sA, if_pos rfl, if_pos rfl, gA_sA, if_pos rfl, if_pos rfl]
      by_cases c : r = k + 1
      · rw [if_pos c, c]
      · rw [if_neg c]
        by_cases c' : r = k
        · rw [if_pos c', c']
        · rw [if_neg c']; exact hb r (by omega) (by omega)
theorem M_r73 {d u : Nat} {rs : List RLt} {P0 : PS} {R : List PS} {Q : Option AV → List PS → Prop} (h6 : rs.length ≤ 6) (hl : (cds rs).length < 300) (hm : MnM u (cds rs) P0) (hr : NrM rs P0) (hy : ∀ P', RlM rs u P' → Fr [83, 84] [] ruA [] P0 P' → Q (some (vI (iI (rs.length : Nat)))) (P' :: R)) :
    ∀ (m k : Nat) (P : PS), k + m = (cds rs).length → (∀ i, i < k → gA P 0 73 i = iI ((cds rs).getD i (0, 0)).1 ∧ (((cds rs).getD i (0, 0)).1 = 0 → gA P 0 74 i = iI ((cds rs).getD i (0, 0)).2)) → Fr [] [] ruA [] P0 P → cX12_rules_73 (0, 0, 0, 0) d (iI (k : Nat)) P R Q := by
  intro m
  induction m with
  | zero =>
    intro k P hk hw hf
    have : k = (cds rs).length := by omega
    subst this
    refine gX12_rules_73 ?_
    unfold fX12_rules_73
    rw [show gI P 0 80 = iI ((cds rs).length : Nat) by rw [hf.2.1 _ (by simp)]; exact hm.1, iI_le (by omega) (by omega) (by omega) (by omega)]
    exact ⟨fun _ => M_r113 h6 hm hr hy rs.length 0 P (by omega) hw (fun r hr' => absurd hr' (Nat.not_lt_zero r)) (fun r _ h0 => absurd h0 (Nat.lt_irrefl 0)) hf, fun g => absurd (by omega) g⟩
  | succ m ih =>
    intro k P hk hw hf
    refine gX12_rules_73 ?_
    unfold fX12_rules_73
    rw [show gI P 0 80 = iI ((cds rs).length : Nat) by rw [hf.2.1 _ (by simp)]; exact hm.1, iI_le (by omega) (by omega) (by omega) (by omega), show iI (k : Nat) + 1 = iI ((k + 1 : Nat)) from iI_add _ 1, iI_cl (a := (k : Nat)) (by omega) (by omega), Int.toNat_natCast]
    have v : vp_in (iI (k : Nat)) 300 := vpk (by omega) (by omega)
    refine ⟨fun g => absurd g (by omega), fun _ => ⟨v, v, v, v, ?_⟩⟩
    have n0 := hm.2.1 k (by omega)
    have e1 : gA P 0 69 k = gA P0 0 69 k := hf.2.2.2.1 _ _ (by simp)
    have e2 : gA P 0 70 k = gA P0 0 70 k := hf.2.2.2.1 _ _ (by simp)
    refine ih (k + 1) _ (by omega) (fun i hi => ?_) ((hf.sA (by simp)).sA (by simp))
    have g1 : gA (sA (sA P 0 73 k (gA P 0 69 k)) 0 74 k (gA P 0 70 k)) 0 73 i = if i = k then gA P 0 69 k else gA P 0 73 i := by
      rw [gA_sA, if_neg (by decide), gA_sA, if_pos rfl, if_pos rfl]
    have g2 : gA (sA (sA P 0 73 k (gA P 0 69 k)) 0 74 k (gA P 0 70 k)) 0 74 i = if i = k then gA P 0 70 k else gA P 0 74 i := by
      rw [gA_sA, if_pos rfl, if_pos rfl]; rfl
    rw [g1, g2]
    by_cases c : i = k
    · rw [if_pos c, if_pos c, c, e1, e2]; exact n0
    · rw [if_neg c, if_neg c]; exact hw i (by omega)
theorem M_rules {d n : Nat} {b : Nat → Int} {o : Except PE (List RLt × Nat)} {P : PS} {R : List PS} {Q : Option AV → List PS → Prop} (ht : TpM b n P) (hR : n ≤ 400 → ∃ f, RlsR b n f [] 0 0 o)
    (hbig : 400 < n → Q (some (vI (iI (-2)))) (P :: R))
    (hy : ∀ rs u P', n ≤ 400 → o = .ok (rs, u) → RlM rs u P' → (cds rs).length ≤ 300 → gI P' 0 2 = iI 0 ∧ gI P' 0 3 = iI (-1) → gI P' 0 1 = iI 0 → Fr rlI [9] rlA [] P P' → Q (some (vI (iI (rs.length : Nat)))) (P' :: R))
    (hno : ∀ e P', n ≤ 400 → o = .error e → FaM e P' → gI P' 0 1 = iI 0 → Fr rmI [9] mrA [] P P' → Q (some (vI (iI (-1)))) (P' :: R)) : Tri 275 (d + 6) [vR 0 0 0] (P :: R) Q := by
  have h15 := ht.2.1
  refine enX12_rules ?_
  unfold fX12_rules_0
  rw [show gI P 0 1 = _ from ht.1, show (400 : Int32) = iI 400 from rfl, iI_le (by omega) (by omega) (by omega) (by omega)]
  refine ⟨fun c => ⟨Or.inr rfl, ?_⟩, fun c => hbig (by omega)⟩
  obtain ⟨f, hR⟩ := hR (by omega)
  refine enX12_start ?_
  unfold fX12_start_0
  dsimp only [hx1, rV]
  have e1 : gI (sI (sI (sI (sI P 0 80 0) 0 81 0) 0 82 0) 0 10 1) 0 1 = iI (n : Nat) := ht.1
  rw [e1]
  have F0 : Fr rmI [9] mrA [] P (sI (sI (sI (sI (sI (sI (sI (sI (sI P 0 80 0) 0 81 0) 0 82 0) 0 10 1) 0 5 (iI (n : Nat))) 0 1 0) 0 4 0) 0 2 0) 0 3 (-1)) := ((((((((Fr.rf.sI (by simp)).sI (by simp)).sI (by simp)).sI (by simp)).sI (by simp)).sI (by simp)).sI (by simp)).sI (by simp)).sI (by simp)
  have a1 : gI (sI (sI (sI (sI (sI (sI (sI (sI (sI P 0 80 0) 0 81 0) 0 82 0) 0 10 1) 0 5 (iI (n : Nat))) 0 1 0) 0 4 0) 0 2 0) 0 3 (-1)) 0 5 = iI (n : Nat) := rfl
  have a2 : gI (sI (sI (sI (sI (sI (sI (sI (sI (sI P 0 80 0) 0 81 0) 0 82 0) 0 10 1) 0 5 (iI (n : Nat))) 0 1 0) 0 4 0) 0 2 0) 0 3 (-1)) 0 1 = iI 0 := rfl
  have a3 : gI (sI (sI (sI (sI (sI (sI (sI (sI (sI P 0 80 0) 0 81 0) 0 82 0) 0 10 1) 0 5 (iI (n : Nat))) 0 1 0) 0 4 0) 0 2 0) 0 3 (-1)) 0 2 = iI 0 := rfl
  have a4 : gI (sI (sI (sI (sI (sI (sI (sI (sI (sI P 0 80 0) 0 81 0) 0 82 0) 0 10 1) 0 5 (iI (n : Nat))) 0 1 0) 0 4 0) 0 2 0) 0 3 (-1)) 0 3 = iI (-1) := rfl
  have a5 : gI (sI (sI (sI (sI (sI (sI (sI (sI (sI P 0 80 0) 0 81 0) 0 82 0) 0 10 1) 0 5 (iI (n : Nat))) 0 1 0) 0 4 0) 0 2 0) 0 3 (-1)) 0 10 = iI 1 := rfl
  have a6 : gI (sI (sI (sI (sI (sI (sI (sI (sI (sI P 0 80 0) 0 81 0) 0 82 0) 0 10 1) 0 5 (iI (n : Nat))) 0 1 0) 0 4 0) 0 2 0) 0 3 (-1)) 0 4 = iI ((0 : Nat) : Int) := rfl
  have a7 : gI (sI (sI (sI (sI (sI (sI (sI (sI (sI P 0 80 0) 0 81 0) 0 82 0) 0 10 1) 0 5 (iI (n : Nat))) 0 1 0) 0 4 0) 0 2 0) 0 3 (-1)) 0 80 = iI ((0 : Nat) : Int) := rfl
  have a8 : gI (sI (sI (sI (sI (sI (sI (sI (sI (sI P 0 80 0) 0 81 0) 0 82 0) 0 10 1) 0 5 (iI (n : Nat))) 0 1 0) 0 4 0) 0 2 0) 0 3 (-1)) 0 81 = iI ((0 : Nat) : Int) := rfl
  have a9 : gI (sI (sI (sI (sI (sI (sI (sI (sI (sI P 0 80 0) 0 81 0) 0 82 0) 0 10 1) 0 5 (iI (n : Nat))) 0 1 0) 0 4 0) 0 2 0) 0 3 (-1)) 0 82 = iI ((0 : Nat) : Int) := rfl
  generalize sI (sI (sI (sI (sI (sI (sI (sI (sI P 0 80 0) 0 81 0) 0 82 0) 0 10 1) 0 5 (iI (n : Nat))) 0 1 0) 0 4 0) 0 2 0) 0 3 (-1) = A at *
  have x2 : TxM true b n A := ⟨a5, a1, by omega, fun i hi => by rw [F0.2.2.2.1 _ _ (by simp)]; exact ht.2.2 i hi⟩
  refine M_token x2 a6 (Nat.zero_le n) (fun B f3 t3 => ?_)
  dsimp only [hx1, rV]
  have p3 : PrM true b n 0 B := ⟨x2.fr f3 (by simp) (by simp) (by simp), t3, by rw [f3.2.1 _ (by simp)]; exact a3, Nat.zero_le n, by rw [f3.2.1 _ (by simp)]; exact a4⟩
  have FB : Fr rmI [9] mrA [] P B := F0.trs (f3.mono (by simp) (by simp) (by simp) (by simp))
  have tB : gI B 0 1 = iI 0 := by rw [f3.2.1 _ (by simp)]; exact a2
  have jI : ∀ {P' : PS}, Fr mrI [9] mrA [] B P' → Fr rmI [9] mrA [] P P' := fun g => FB.trs (g.mono (by simp) (by simp) (by simp) (by simp))
  have jT : ∀ {P' : PS}, Fr mrI [9] mrA [] B P' → gI P' 0 1 = iI 0 := fun g => by rw [g.2.1 _ (by simp)]; exact tB
  refine M_rl (P0 := B) (d := d) (by omega) (fun rs u C ho m' r' h6 hl hu hz fC => ?_) (fun e C ho fa fC => hno e C (by omega) ho fa (jT fC) (jI fC)) f [] 0 0 B hR p3 ⟨by rw [f3.2.1 _ (by simp)]; exact a7, fun i hi => absurd hi (Nat.not_lt_zero i), by rw [f3.2.1 _ (by simp)]; exact a9⟩ ⟨by rw [f3.2.1 _ (by simp)]; exact a8, fun r hr => absurd hr (Nat.not_lt_zero r), fun r _ h0 => absurd h0 (Nat.lt_irrefl 0)⟩ (Nat.zero_le _) (Nat.zero_le _) (Nat.zero_le _) Fr.rf
  refine M_r73 (P0 := C) (u := u) h6 (by omega) m' r' (fun D rD fD => ?_) (cds rs).length 0 C (by omega) (fun i hi => absurd hi (Nat.not_lt_zero i)) Fr.rf
  exact hy rs u D (by omega) ho rD (by omega) ⟨by rw [fD.2.1 _ (by simp)]; exact hz.1, by rw [fD.2.1 _ (by simp)]; exact hz.2⟩ (by rw [fD.2.1 _ (by simp)]; exact jT fC) (((jI fC).mono (by simp) (by simp) (by simp) (by simp)).trs (fD.mono (by simp) (by simp) (by simp) (by simp)))
