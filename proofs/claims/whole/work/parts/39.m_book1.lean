/-! ===== the Model: NAMES, lines, what a BOOK tells ===== -/
theorem own_c {l w : List Int} {c : Int64} {P : PS} (hg : gL P 0 9 = iL (p256 l)) (hl : lets l) (h8 : l.length ≤ 8) (hw : lets w) (hw8 : w.length ≤ 8) (hc : c = iL (p256 w)) : lg_cmp (gL P 0 9) c = 0 ↔ l = w := by
  rw [lcmp_eq, hg, hc, p256_eq hl h8 hw hw8]
theorem lw_star : lets w_star ∧ w_star.length ≤ 8 := ⟨by unfold lets w_star; decide, by decide⟩
theorem lw_at : lets w_at ∧ w_at.length ≤ 8 := ⟨by unfold lets w_at; decide, by decide⟩
theorem lw_light : lets w_light ∧ w_light.length ≤ 8 := ⟨by unfold lets w_light; decide, by decide⟩
theorem lw_eye : lets w_eye ∧ w_eye.length ≤ 8 := ⟨by unfold lets w_eye; decide, by decide⟩
theorem lw_wide : lets w_wide ∧ w_wide.length ≤ 8 := ⟨by unfold lets w_wide; decide, by decide⟩
theorem lw_unit : lets w_unit ∧ w_unit.length ≤ 8 := ⟨by unfold lets w_unit; decide, by decide⟩
theorem lw_far : lets w_far ∧ w_far.length ≤ 8 := ⟨by unfold lets w_far; decide, by decide⟩
theorem lw_noise : lets w_noise ∧ w_noise.length ≤ 8 := ⟨by unfold lets w_noise; decide, by decide⟩
theorem lw_off : lets w_off ∧ w_off.length ≤ 8 := ⟨by unfold lets w_off; decide, by decide⟩
theorem lw_bar : lets w_bar ∧ w_bar.length ≤ 8 := ⟨by unfold lets w_bar; decide, by decide⟩
theorem lw_step : lets w_step ∧ w_step.length ≤ 8 := ⟨by unfold lets w_step; decide, by decide⟩
theorem lw_needs : lets w_needs ∧ w_needs.length ≤ 8 := ⟨by unfold lets w_needs; decide, by decide⟩
theorem lw_lean : lets w_lean ∧ w_lean.length ≤ 8 := ⟨by unfold lets w_lean; decide, by decide⟩
theorem lw_room : lets w_room ∧ w_room.length ≤ 8 := ⟨by unfold lets w_room; decide, by decide⟩
theorem lw_pair : lets w_pair ∧ w_pair.length ≤ 8 := ⟨by unfold lets w_pair; decide, by decide⟩
theorem lw_trust : lets w_trust ∧ w_trust.length ≤ 8 := ⟨by unfold lets w_trust; decide, by decide⟩
theorem lw_when : lets w_when ∧ w_when.length ≤ 8 := ⟨by unfold lets w_when; decide, by decide⟩
theorem lw_dots : lets w_dots ∧ w_dots.length ≤ 8 := ⟨by unfold lets w_dots; decide, by decide⟩
theorem lw_named : lets w_named ∧ w_named.length ≤ 8 := ⟨by unfold lets w_named; decide, by decide⟩
theorem lw_namings : lets w_namings ∧ w_namings.length ≤ 8 := ⟨by unfold lets w_namings; decide, by decide⟩
theorem lw_specks : lets w_specks ∧ w_specks.length ≤ 8 := ⟨by unfold lets w_specks; decide, by decide⟩
theorem lw_smears : lets w_smears ∧ w_smears.length ≤ 8 := ⟨by unfold lets w_smears; decide, by decide⟩
theorem lw_told : lets w_told ∧ w_told.length ≤ 8 := ⟨by unfold lets w_told; decide, by decide⟩
theorem lw_stretch : lets w_stretch ∧ w_stretch.length ≤ 8 := ⟨by unfold lets w_stretch; decide, by decide⟩
theorem lw_and : lets w_and ∧ w_and.length ≤ 8 := ⟨by unfold lets w_and; decide, by decide⟩
theorem lw_or : lets w_or ∧ w_or.length ≤ 8 := ⟨by unfold lets w_or; decide, by decide⟩
theorem lw_not : lets w_not ∧ w_not.length ≤ 8 := ⟨by unfold lets w_not; decide, by decide⟩
theorem M_isName {d : Nat} {r : Bool} {b : Nat → Int} {n q : Nat} {P : PS} {R : List PS} {Q : Option AV → List PS → Prop} (hp : PrM r b n q P) (hy : (tok r b n q).1 = 1 ∧ wid (tok r b n q).2.2.2.2 = -1 → Q (some (vI (iI 1))) (P :: R)) (hn : ¬ ((tok r b n q).1 = 1 ∧ wid (tok r b n q).2.2.2.2 = -1) → Q (some (vI (iI 0))) (P :: R)) : Tri 182 d [vR 0 0 0] (P :: R) Q := by
  refine enX12_isName ?_
  unfold fX12_isName_0
  have h1 := hp.srt (k := 1) (by omega)
  have e1 : iI ((1 : Nat) : Int) = (1 : Int32) := rfl
  rw [e1] at h1
  rw [h1]
  refine ⟨fun c1 => ?_, fun c1 => ⟨Or.inl rfl, hn (fun q => c1 q.1)⟩⟩
  have hok := (tok_ok r b hp.2.2.2.1).2.2.2.2.1 c1
  have hg := hp.2.1.2.2.2.1 c1
  have hno : wid (tok r b n q).2.2.2.2 ≠ -1 → Q (some (vI (iI 0))) (P :: R) := fun c => hn (fun q => c q.2)
  have hyes : wid (tok r b n q).2.2.2.2 = -1 → Q (some (vI (iI 1))) (P :: R) := fun c => hy ⟨c1, c⟩
  clear hy hn
  generalize (tok r b n q).2.2.2.2 = l at *
  have k_star := own_c (w := w_star) (c := (1937006962 : Int64)) hg hok.1 hok.2 lw_star.1 lw_star.2 (by decide)
  have k_at := own_c (w := w_at) (c := (24948 : Int64)) hg hok.1 hok.2 lw_at.1 lw_at.2 (by decide)
  have k_light := own_c (w := w_light) (c := (465624852596 : Int64)) hg hok.1 hok.2 lw_light.1 lw_light.2 (by decide)
  have k_eye := own_c (w := w_eye) (c := (6650213 : Int64)) hg hok.1 hok.2 lw_eye.1 lw_eye.2 (by decide)
  have k_wide := own_c (w := w_wide) (c := (2003395685 : Int64)) hg hok.1 hok.2 lw_wide.1 lw_wide.2 (by decide)
  have k_unit := own_c (w := w_unit) (c := (1970170228 : Int64)) hg hok.1 hok.2 lw_unit.1 lw_unit.2 (by decide)
  have k_far := own_c (w := w_far) (c := (6709618 : Int64)) hg hok.1 hok.2 lw_far.1 lw_far.2 (by decide)
  have k_noise := own_c (w := w_noise) (c := (474315584357 : Int64)) hg hok.1 hok.2 lw_noise.1 lw_noise.2 (by decide)
  have k_off := own_c (w := w_off) (c := (7300710 : Int64)) hg hok.1 hok.2 lw_off.1 lw_off.2 (by decide)
  have k_bar := own_c (w := w_bar) (c := (6447474 : Int64)) hg hok.1 hok.2 lw_bar.1 lw_bar.2 (by decide)
  have k_step := own_c (w := w_step) (c := (1937007984 : Int64)) hg hok.1 hok.2 lw_step.1 lw_step.2 (by decide)
  have k_needs := own_c (w := w_needs) (c := (474147546227 : Int64)) hg hok.1 hok.2 lw_needs.1 lw_needs.2 (by decide)
  have k_lean := own_c (w := w_lean) (c := (1818583406 : Int64)) hg hok.1 hok.2 lw_lean.1 lw_lean.2 (by decide)
  have k_room := own_c (w := w_room) (c := (1919905645 : Int64)) hg hok.1 hok.2 lw_room.1 lw_room.2 (by decide)
  have k_pair := own_c (w := w_pair) (c := (1885432178 : Int64)) hg hok.1 hok.2 lw_pair.1 lw_pair.2 (by decide)
  have k_trust := own_c (w := w_trust) (c := (500136506228 : Int64)) hg hok.1 hok.2 lw_trust.1 lw_trust.2 (by decide)
  have k_when := own_c (w := w_when) (c := (2003330414 : Int64)) hg hok.1 hok.2 lw_when.1 lw_when.2 (by decide)
  have k_dots := own_c (w := w_dots) (c := (1685025907 : Int64)) hg hok.1 hok.2 lw_dots.1 lw_dots.2 (by decide)
  have k_named := own_c (w := w_named) (c := (474080961892 : Int64)) hg hok.1 hok.2 lw_named.1 lw_named.2 (by decide)
  have k_namings := own_c (w := w_namings) (c := (31069369986344819 : Int64)) hg hok.1 hok.2 lw_namings.1 lw_namings.2 (by decide)
  have k_specks := own_c (w := w_specks) (c := (126926574545779 : Int64)) hg hok.1 hok.2 lw_specks.1 lw_specks.2 (by decide)
  have k_smears := own_c (w := w_smears) (c := (126913689514611 : Int64)) hg hok.1 hok.2 lw_smears.1 lw_smears.2 (by decide)
  have k_told := own_c (w := w_told) (c := (1953459300 : Int64)) hg hok.1 hok.2 lw_told.1 lw_told.2 (by decide)
  have k_stretch := own_c (w := w_stretch) (c := (32497656998945640 : Int64)) hg hok.1 hok.2 lw_stretch.1 lw_stretch.2 (by decide)
  have k_and := own_c (w := w_and) (c := (6385252 : Int64)) hg hok.1 hok.2 lw_and.1 lw_and.2 (by decide)
  have k_or := own_c (w := w_or) (c := (28530 : Int64)) hg hok.1 hok.2 lw_or.1 lw_or.2 (by decide)
  have k_not := own_c (w := w_not) (c := (7237492 : Int64)) hg hok.1 hok.2 lw_not.1 lw_not.2 (by decide)
  have h175 : wid l ≠ -1 → cX12_isName_175 (0, 0, 0, 0) d P R Q := fun c => by
    refine gX12_isName_175 (gX12_isName_180 ?_)
    unfold fX12_isName_180
    exact ⟨fun _ => ⟨Or.inl rfl, hno c⟩, fun c => absurd c (by decide)⟩
  rw [k_star, k_at, k_light, k_eye, k_wide, k_unit, k_far, k_noise, k_off, k_bar, k_step, k_needs, k_lean, k_room, k_pair]
  refine ⟨fun c => h175 (by rw [c]; decide), fun n_star => ⟨fun c => h175 (by rw [c]; decide), fun n_at => ⟨fun c => h175 (by rw [c]; decide), fun n_light => ⟨fun c => h175 (by rw [c]; decide), fun n_eye => ⟨fun c => h175 (by rw [c]; decide), fun n_wide => ⟨fun c => h175 (by rw [c]; decide), fun n_unit => ⟨fun c => h175 (by rw [c]; decide), fun n_far => ⟨fun c => h175 (by rw [c]; decide), fun n_noise => ⟨fun c => h175 (by rw [c]; decide), fun n_off => ⟨fun c => h175 (by rw [c]; decide), fun n_bar => ⟨fun c => h175 (by rw [c]; decide), fun n_step => ⟨fun c => h175 (by rw [c]; decide), fun n_needs => ⟨fun c => h175 (by rw [c]; decide), fun n_lean => ⟨fun c => h175 (by rw [c]; decide), fun n_room => ⟨fun n_pair => ?_, fun c => h175 (by rw [c]; decide)⟩⟩⟩⟩⟩⟩⟩⟩⟩⟩⟩⟩⟩⟩⟩
  refine gX12_isName_180 ?_
  unfold fX12_isName_180
  refine ⟨fun c => absurd rfl c, fun _ => ?_⟩
  rw [k_trust, k_when, k_dots, k_named, k_namings, k_specks, k_smears, k_told, k_stretch, k_and, k_or, k_not]
  refine ⟨fun c => ⟨Or.inl rfl, hno (by rw [c]; decide)⟩, fun n_trust => ⟨fun c => ⟨Or.inl rfl, hno (by rw [c]; decide)⟩, fun n_when => ⟨fun c => ⟨Or.inl rfl, hno (by rw [c]; decide)⟩, fun n_dots => ⟨fun c => ⟨Or.inl rfl, hno (by rw [c]; decide)⟩, fun n_named => ⟨fun c => ⟨Or.inl rfl, hno (by rw [c]; decide)⟩, fun n_namings => ⟨fun c => ⟨Or.inl rfl, hno (by rw [c]; decide)⟩, fun n_specks => ⟨fun c => ⟨Or.inl rfl, hno (by rw [c]; decide)⟩, fun n_smears => ⟨fun c => ⟨Or.inl rfl, hno (by rw [c]; decide)⟩, fun n_told => ⟨fun c => ⟨Or.inl rfl, hno (by rw [c]; decide)⟩, fun n_stretch => ⟨fun c => ⟨Or.inl rfl, hno (by rw [c]; decide)⟩, fun n_and => ⟨fun c => ⟨Or.inl rfl, hno (by rw [c]; decide)⟩, fun n_or => ⟨fun c => ⟨Or.inl rfl, hno (by rw [c]; decide)⟩, fun n_not => ⟨Or.inr rfl, hyes ?_⟩⟩⟩⟩⟩⟩⟩⟩⟩⟩⟩⟩⟩
  simp only [wid, wix, OWN, n_star, n_at, n_light, n_eye, n_wide, n_unit, n_far, n_noise, n_off, n_bar, n_step, n_needs, n_lean, n_room, n_pair, n_trust, n_when, n_dots, n_named, n_namings, n_specks, n_smears, n_told, n_stretch, n_and, n_or, n_not, if_false]
/-- toldBy -/
theorem M_by {d : Nat} {b : Nat → Int} {n q : Nat} {w : List Int} {c : Int64} {lo hi : Int} {P : PS} {R : List PS} {Q : Option AV → List PS → Prop} (hp : PrM false b n q P) (hw : c = iL (p256 w)) (hl : lets w ∧ w.length ≤ 8) (hlo : 0 ≤ lo ∧ lo ≤ 10000) (hhi : 0 ≤ hi ∧ hi ≤ 10000)
    (hy : ∀ v q' P', byS b n w lo hi q = .ok (v, q') → Fr prI [9] [] [] P P' → PrM false b n q' P' → Q (some (vI (iI v))) (P' :: R)) (hn : ∀ x e P', byS b n w lo hi q = .error e → Fr prI [9] [] [] P P' → FaM e P' → Q (some (vI x)) (P' :: R)) : Tri 190 (d + 3) [vR 0 0 0, vL c, vI (iI lo), vI (iI hi)] (P :: R) Q := by
  refine enX12_toldBy ?_
  unfold fX12_toldBy_0
  refine M_want hp hw hl.1 hl.2 (fun q1 P1 h1 f1 p1 => ?_) (fun e P1 h1 f1 fa1 => ?_)
  · dsimp only [hx1, rV]
    refine M_num p1 hlo hhi (fun v q2 P2 h2 f2 p2 => ?_) (fun x e P2 h2 f2 fa2 => ?_)
    · dsimp only [hx1, rI]
      exact hy v q2 P2 (by unfold byS; rw [h1]; exact h2) (f1.trs f2) p2
    · dsimp only [hx1, rI]
      exact hn x e P2 (by unfold byS; rw [h1]; exact h2) (f1.trs f2) fa2
  · dsimp only [hx1, rV]
    refine M_num_f fa1 ?_
    dsimp only [hx1, rI]
    exact hn _ e P1 (by unfold byS; rw [h1]; rfl) f1 fa1
theorem M_by_f {d : Nat} {c : Int64} {a1 a2 : Int32} {e : PE} {P : PS} {R : List PS} {Q : Option AV → List PS → Prop} (hf : FaM e P) (h : Q (some (vI 0)) (P :: R)) : Tri 190 (d + 2) [vR 0 0 0, vL c, vI a1, vI a2] (P :: R) Q := by
  refine enX12_toldBy ?_
  unfold fX12_toldBy_0
  refine M_want_f hf ?_
  dsimp only [hx1, rV]
  refine M_num_f hf ?_
  dsimp only [hx1, rI]
  exact h
theorem M_plm_f {d : Nat} {a1 a2 : Int32} {e : PE} {P : PS} {R : List PS} {Q : Option AV → List PS → Prop} (hf : FaM e P) (h : Q (some (vI 0)) (P :: R)) : Tri 185 (d + 1) [vR 0 0 0, vI a1, vI a2] (P :: R) Q := by
  refine enX12_signed ?_
  unfold fX12_signed_0
  have : ¬ gI P 0 2 ≤ 0 := by
    rw [hf.1, show (0 : Int32) = iI 0 from rfl, iI_le (by have := hf.2.2; omega) (by have := hf.2.2; omega) (by omega) (by omega)]
    have := hf.2.2; omega
  exact ⟨fun c => absurd c this, fun _ => h⟩
/-- a V: behind its sign -/
theorem M_plm39 {d : Nat} {b : Nat → Int} {n q : Nat} {pl : Int} {m : Prop} [Decidable m] {P0 P : PS} {R : List PS} {Q : Option AV → List PS → Prop} (hp : PrM false b n q P) (hf0 : Fr prI [9] [] [] P0 P)
    (hy : ∀ P', (tok false b n q).1 = 2 → ¬ 99 < (tok false b n q).2.2.2.1 → Fr prI [9] [] [] P0 P' → PrM false b n (tok false b n q).2.2.1 P' → Q (some (vI (iI (if m then -(tok false b n q).2.2.2.1 else (tok false b n q).2.2.2.1)))) (P' :: R))
    (hn1 : ∀ x P', (tok false b n q).1 = 2 → 99 < (tok false b n q).2.2.2.1 → Fr prI [9] [] [] P0 P' → FaM (4, pl) P' → Q (some (vI x)) (P' :: R))
    (hn2 : ∀ x P', ¬ (tok false b n q).1 = 2 → Fr prI [9] [] [] P0 P' → FaM (badF (tok false b n q), ((tok false b n q).2.1 : Nat)) P' → Q (some (vI x)) (P' :: R)) :
    cX12_signed_39 (0, 0, 0, 0) (d + 1) (iI (-99)) (iI 99) (iI pl) (if m then 1 else 0) P R Q := by
  refine gX12_signed_39 ?_
  unfold fX12_signed_39
  have h2 := hp.srt (k := 2) (by omega)
  have e2 : iI ((2 : Nat) : Int) = (2 : Int32) := rfl
  rw [e2] at h2
  rw [h2]
  refine ⟨fun c2 => ?_, fun c2 => M_wrong2 hp (fun P' hf hfa => ?_)⟩
  · have hv := (tok_ok false b hp.2.2.2.1).2.2.2.2.2.1 c2
    rw [hp.2.1.2.2.1 c2]
    have hbig : ∀ x, 99 < (tok false b n q).2.2.2.1 → Q (some (vI x)) ((sI (sI P 0 2 (4 : Int32)) 0 3 (iI pl)) :: R) := fun x c => hn1 x _ c2 c ((hf0.sI (by simp [prI])).sI (by simp [prI])) ⟨rfl, rfl, (by decide : (1 : Int) ≤ 4), (by decide : (4 : Int) ≤ 6)⟩
    have hnx : ∀ {x : Int32}, x = iI (if m then -(tok false b n q).2.2.2.1 else (tok false b n q).2.2.2.1) → ¬ 99 < (tok false b n q).2.2.2.1 → Tri 178 (d + 1) [vR 0 0 0] (P :: R) (fun r3 h3 => hx1 h3 fun P0_3 R_3 => rV r3 (Q (some (vI x)) (P0_3 :: R_3))) := fun {x} hx c => by
      refine M_next hp (by rw [c2]; decide) (fun P' hf hp' => ?_)
      dsimp only [hx1, rV]
      rw [hx]
      exact hy P' c2 c (hf0.trs (hf.mono (by simp [tkI, prI]) (by simp) (by simp) (by simp))) hp'
    generalize (tok false b n q).2.2.2.1 = v at *
    rw [iI_neg, iI_lt (by omega) (by omega) (by omega) (by omega), iI_le (by omega) (by omega) (by omega) (by omega), iI_lt (by omega) (by omega) (by omega) (by omega), iI_le (by omega) (by omega) (by omega) (by omega)]
    by_cases hm : m
    · simp only [if_pos hm] at hnx ⊢
      refine ⟨fun c => absurd c (by decide), fun _ => ⟨fun c => hbig _ (by omega), fun c => ⟨fun c' => hnx rfl (by omega), fun c' => absurd c' (by omega)⟩⟩⟩
    · simp only [if_neg hm] at hnx ⊢
      refine ⟨fun _ => ⟨fun c => absurd c (by omega), fun c => ⟨fun c' => hnx rfl (by omega), fun c' => hbig _ (by omega)⟩⟩, fun c => absurd trivial c⟩
  · dsimp only [hx1, rV]
    exact hn2 _ P' c2 (hf0.trs (hf.mono (by simp [prI]) (by simp) (by simp) (by simp))) hfa
theorem M_plm {d : Nat} {b : Nat → Int} {n q : Nat} {P : PS} {R : List PS} {Q : Option AV → List PS → Prop} (hp : PrM false b n q P)
    (hy : ∀ v q' P', plmS b n q = .ok (v, q') → Fr prI [9] [] [] P P' → PrM false b n q' P' → Q (some (vI (iI v))) (P' :: R)) (hn : ∀ x e P', plmS b n q = .error e → Fr prI [9] [] [] P P' → FaM e P' → Q (some (vI x)) (P' :: R)) : Tri 185 (d + 2) [vR 0 0 0, vI (-99), vI 99] (P :: R) Q := by
  refine enX12_signed ?_
  unfold fX12_signed_0
  have h45 := hp.sgn (c := 45) (by omega) (by omega)
  have e45 : iI 45 = (45 : Int32) := rfl
  rw [e45] at h45
  rw [h45, hp.2.2.1, hp.2.1.2.1]
  refine ⟨fun _ => ⟨fun hm => ⟨fun _ => ?_, fun c => absurd rfl c⟩, fun hm => ⟨fun c => absurd c (by decide), fun _ => ?_⟩⟩, fun c => absurd (by decide) c⟩
  · have := M_plm39 (d := d) (R := R) (Q := Q) (m := False) (pl := ((tok false b n q).2.1 : Nat)) hp Fr.rf (fun P' c1 c2 f p => hy _ _ P' (by unfold plmS; simp only [if_neg hm]; rw [if_pos c1, if_neg c2, if_neg (by decide)]) f p) (fun x P' c1 c2 f fa => hn x _ P' (by unfold plmS; simp only [if_neg hm]; rw [if_pos c1, if_pos c2]) f fa) (fun x P' c1 f fa => hn x _ P' (by unfold plmS; simp only [if_neg hm]; rw [if_neg c1]) f fa)
    rw [if_neg (by decide)] at this
    exact this
  · refine M_next hp (by rw [hm.1]; decide) (fun P1 hf1 hp1 => ?_)
    dsimp only [hx1, rV]
    have := M_plm39 (d := d) (R := R) (Q := Q) (m := True) (pl := ((tok false b n q).2.1 : Nat)) hp1 (hf1.mono (by simp [tkI, prI]) (by simp) (by simp) (by simp)) (fun P' c1 c2 f p => hy _ _ P' (by unfold plmS; simp only [if_pos hm]; rw [if_pos c1, if_neg c2]; rfl) f p) (fun x P' c1 c2 f fa => hn x _ P' (by unfold plmS; simp only [if_pos hm]; rw [if_pos c1, if_pos c2]) f fa) (fun x P' c1 f fa => hn x _ P' (by unfold plmS; simp only [if_pos hm]; rw [if_neg c1]) f fa)
    rw [if_pos trivial] at this
    exact this
