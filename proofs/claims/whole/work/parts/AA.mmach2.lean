theorem M_settle {d u : Nat} {m : Int} {x : Int32} {R : List PS} {Q : Option AV → List PS → Prop} (hx : x = iI m) (hmb : -100 ≤ m ∧ m ≤ 100) : ∀ (S : List Int) (out : List NT) (P : PS), (∀ a ∈ S, 20 ≤ a ∧ a ≤ 30) → out.length + S.length < 299 → MsM S u out P → (∀ P', MsM (stl m S out).1 u (stl m S out).2 P' → Fr msI [] mcA [] P P' → Q none (P' :: R)) → cX12_settle_0 (0, 0, 0, 0) (d + 1) x P R Q := by
  subst hx
  intro S
  induction S with
  | nil =>
    intro out P hv hl hm h
    refine gX12_settle_0 ?_
    unfold fX12_settle_0
    refine M_upper hm (by show 0 < 300; omega) ?_
    dsimp only [hx1, rI]
    exact ⟨fun _ => h P hm Fr.rf, fun c => absurd rfl c⟩
  | cons a S ih =>
    intro out P hv hl hm h
    have hl' : out.length + (S.length + 1) < 299 := hl
    have av := hv a (List.mem_cons_self ..)
    refine gX12_settle_0 ?_
    unfold fX12_settle_0
    refine M_upper hm (by show S.length + 1 < 300; omega) ?_
    dsimp only [hx1, rI]
    rw [show topS (a :: S) = a from rfl, show (30 : Int32) = iI 30 from rfl, iI_eq (by omega) (by omega) (by omega) (by omega)]
    refine ⟨fun c => ?_, fun c => M_upper hm (by show S.length + 1 < 300; omega) ?_⟩
    · unfold stl at h
      rw [if_pos (Or.inl c)] at h
      exact h P hm Fr.rf
    · dsimp only [hx1, rI]
      rw [show topS (a :: S) = a from rfl, iI_lt (by omega) (by omega) (by omega) (by omega)]
      refine ⟨fun c1 => ?_, fun c1 => ?_⟩
      · unfold stl at h
        rw [if_pos (Or.inr c1)] at h
        exact h P hm Fr.rf
      · unfold stl at h
        rw [if_neg (by omega)] at h
        refine M_pop (by omega) hm (by omega) (by omega) (fun P' m' f' => ?_)
        dsimp only [hx1, rV]
        exact ih (out ++ [(a, 0)]) P' (fun x hx => hv x (List.mem_cons_of_mem _ hx)) (by rw [len_app1]; omega) m' (fun P'' m'' f'' => h P'' m'' ((f'.mono (by simp) (by simp) (by simp) (by simp)).trs f''))
theorem M_isOpen {d u : Nat} {S : List Int} {out : List NT} {P : PS} {R : List PS} {Q : Option AV → List PS → Prop} (hm : MsM S u out P) (hs : S.length < 300) (hv : ∀ a ∈ S, 20 ≤ a ∧ a ≤ 30) (h : Q (some (vI (oI (decide (30 ∈ S))))) (P :: R)) : Tri 269 d [vR 0 0 0] (P :: R) Q := by
  refine enX12_isOpen ?_
  unfold fX12_isOpen_0
  have gm : ∀ k, k < S.length → S.getD k 0 ∈ S := fun k hk => by
    rw [List.getD_eq_getElem?_getD, List.getElem?_eq_getElem hk]
    exact List.getElem_mem hk
  have key : ∀ (m i : Nat) (p : Bool), i + m = S.length → (p = true ↔ ∃ k, k < i ∧ S.getD (S.length - 1 - k) 0 = 30) → cX12_isOpen_4 (0, 0, 0, 0) d (oI p) (iI (i : Nat)) P R Q := by
    intro m
    induction m with
    | zero =>
      intro i p hi hp
      have : i = S.length := by omega
      subst this
      refine gX12_isOpen_4 ?_
      unfold fX12_isOpen_4
      rw [show gI P 0 85 = _ from hm.2.2.2.1, iI_le (by omega) (by omega) (by omega) (by omega)]
      have e : p = decide (30 ∈ S) := by
        rw [Bool.eq_iff_iff, hp, decide_eq_true_iff]
        constructor
        · rintro ⟨k, hk, e⟩
          rw [← e]; exact gm _ (by omega)
        · intro g
          obtain ⟨k, hk, e⟩ := List.getElem_of_mem g
          refine ⟨S.length - 1 - k, by omega, ?_⟩
          rw [show S.length - 1 - (S.length - 1 - k) = k by omega, List.getD_eq_getElem?_getD, List.getElem?_eq_getElem hk, e]; rfl
      rw [← e] at h
      exact ⟨fun _ => ⟨by cases p; exact Or.inl rfl; exact Or.inr rfl, h⟩, fun c => absurd (by omega) c⟩
    | succ m ih =>
      intro i p hi hp
      have wi := hm.2.2.2.2.1 (S.length - 1 - i) (by omega)
      rw [show S.length - 1 - (S.length - 1 - i) = i by omega] at wi
      have bd := hv _ (gm (S.length - 1 - i) (by omega))
      refine gX12_isOpen_4 ?_
      unfold fX12_isOpen_4
      rw [show gI P 0 85 = _ from hm.2.2.2.1, iI_le (by omega) (by omega) (by omega) (by omega), iI_cl (a := (i : Nat)) (by omega) (by omega), Int.toNat_natCast, show gA P 0 77 i = _ from wi, show (30 : Int32) = iI 30 from rfl, iI_eq (by omega) (by omega) (by omega) (by omega), show iI (i : Nat) + 1 = iI ((i + 1 : Nat)) from iI_add _ 1, oI_z]
      refine ⟨fun c => absurd c (by omega), fun _ => ⟨fun c => ?_, fun c => ⟨vpk (by omega) (by omega), fun c1 => ?_, fun c1 => ?_⟩⟩⟩
      · refine ih (i + 1) true (by omega) ⟨fun _ => ?_, fun _ => rfl⟩
        obtain ⟨k, hk, e⟩ := hp.mp (by simpa using c)
        exact ⟨k, by omega, e⟩
      · refine ih (i + 1) false (by omega) ⟨fun g => absurd g (by decide), fun ⟨k, hk, e⟩ => ?_⟩
        by_cases ck : k = i
        · subst ck; exact absurd e c1
        · have := hp.mpr ⟨k, by omega, e⟩
          rw [c] at this; exact this
      · exact ih (i + 1) true (by omega) ⟨fun _ => ⟨i, by omega, c1⟩, fun _ => rfl⟩
  exact key S.length 0 false (by omega) ⟨fun g => absurd g (by decide), fun ⟨k, hk, _⟩ => absurd hk (Nat.not_lt_zero k)⟩
theorem M_rank {d : Nat} {a : Int} {x : Int32} {R : List PS} {Q : Option AV → List PS → Prop} (hx : x = iI a) (ha : -1 ≤ a ∧ a ≤ 30) (h : Q (some (vI (iI (rk a)))) R) : Tri 270 d [vI x] R Q := by
  subst hx
  refine enX12_rank ?_
  unfold fX12_rank_0
  unfold rk at h
  simp (disch := omega) only [show (27 : Int32) = iI 27 from rfl, show (24 : Int32) = iI 24 from rfl, show (25 : Int32) = iI 25 from rfl, iI_eq]
  refine ⟨fun c => ⟨fun c1 => ?_, fun c1 => ⟨fun c2 => ?_, fun c2 => ?_⟩⟩, fun c => ?_⟩
  · rw [if_neg c, if_pos (Or.inl c1)] at h; exact h
  · rw [if_neg c, if_neg (by omega)] at h; exact h
  · rw [if_neg c, if_pos (Or.inr c2)] at h; exact h
  · rw [if_pos c] at h; exact h
theorem M_known {d n q : Nat} {b : Nat → Int} {P : PS} {R : List PS} {Q : Option AV → List PS → Prop} (hp : PrM true b n q P) (h : Q (some (vI (iI (knw (tkq b n q))))) (P :: R)) : Tri 271 (d + 1) [vR 0 0 0] (P :: R) Q := by
  refine enX12_known ?_
  unfold fX12_known_0
  unfold knw at h
  have ld : ∀ w ∈ OWN, lets w ∧ w.length ≤ 8 := by unfold lets OWN; decide
  have c1 : isW (tkq b n q) w_dots ∨ isW (tkq b n q) w_named ∨ isW (tkq b n q) w_namings ∨ isW (tkq b n q) w_specks → cX12_known_45 (0, 0, 0, 0) d 1 P R Q := fun hh => by
    refine gX12_known_45 ?_
    unfold fX12_known_45
    refine ⟨fun g => absurd g (by decide), fun _ => ?_⟩
    refine M_isWord (w := w_dots) hp rfl (ld _ (by decide)).1 (by decide) (fun a => ?_) (fun a => ?_)
    · dsimp only [hx1, rI]
      rw [if_pos a] at h
      exact ⟨fun g => absurd g (by decide), fun _ => h⟩
    · dsimp only [hx1, rI]
      rw [if_neg a] at h
      refine ⟨fun _ => ?_, fun g => absurd rfl g⟩
      refine M_isWord (w := w_named) hp rfl (ld _ (by decide)).1 (by decide) (fun a1 => ?_) (fun a1 => ?_)
      · dsimp only [hx1, rI]
        rw [if_pos a1] at h
        exact ⟨fun g => absurd g (by decide), fun _ => h⟩
      · dsimp only [hx1, rI]
        rw [if_neg a1] at h
        refine ⟨fun _ => ?_, fun g => absurd rfl g⟩
        refine M_isWord (w := w_namings) hp rfl (ld _ (by decide)).1 (by decide) (fun a2 => ?_) (fun a2 => ?_)
        · dsimp only [hx1, rI]
          rw [if_pos a2] at h
          exact ⟨fun g => absurd g (by decide), fun _ => h⟩
        · dsimp only [hx1, rI]
          rw [if_neg a2, if_pos (((hh.resolve_left a).resolve_left a1).resolve_left a2)] at h
          exact ⟨fun _ => h, fun g => absurd rfl g⟩
  have c0 : ¬ (isW (tkq b n q) w_dots ∨ isW (tkq b n q) w_named ∨ isW (tkq b n q) w_namings ∨ isW (tkq b n q) w_specks) → cX12_known_45 (0, 0, 0, 0) d 0 P R Q := fun hh => by
    refine gX12_known_45 ?_
    unfold fX12_known_45
    refine ⟨fun _ => ?_, fun g => absurd rfl g⟩
    rw [if_neg (fun g => hh (Or.inl g)), if_neg (fun g => hh (Or.inr (Or.inl g))), if_neg (fun g => hh (Or.inr (Or.inr (Or.inl g)))), if_neg (fun g => hh (Or.inr (Or.inr (Or.inr g))))] at h
    refine M_isWord (w := w_smears) hp rfl (ld _ (by decide)).1 (by decide) (fun a => ?_) (fun a => ?_)
    · dsimp only [hx1, rI]
      rw [if_pos a] at h
      exact ⟨fun g => absurd g (by decide), fun _ => h⟩
    · dsimp only [hx1, rI]
      rw [if_neg a] at h
      refine ⟨fun _ => ?_, fun g => absurd rfl g⟩
      refine M_isWord (w := w_told) hp rfl (ld _ (by decide)).1 (by decide) (fun a1 => ?_) (fun a1 => ?_)
      · dsimp only [hx1, rI]
        rw [if_pos a1] at h
        exact ⟨fun g => absurd g (by decide), fun _ => h⟩
      · dsimp only [hx1, rI]
        rw [if_neg a1] at h
        refine ⟨fun _ => ?_, fun g => absurd rfl g⟩
        refine M_isWord (w := w_stretch) hp rfl (ld _ (by decide)).1 (by decide) (fun a2 => ?_) (fun a2 => ?_)
        · dsimp only [hx1, rI]
          rw [if_pos a2] at h
          exact ⟨fun g => absurd g (by decide), fun _ => h⟩
        · dsimp only [hx1, rI]
          rw [if_neg a2] at h
          refine ⟨fun _ => ?_, fun g => absurd rfl g⟩
          refine M_isWord (w := w_light) hp rfl (ld _ (by decide)).1 (by decide) (fun a3 => ?_) (fun a3 => ?_)
          · dsimp only [hx1, rI]
            rw [if_pos a3] at h
            exact ⟨fun g => absurd g (by decide), fun _ => h⟩
          · dsimp only [hx1, rI]
            rw [if_neg a3] at h
            exact ⟨fun _ => h, fun g => absurd rfl g⟩
  refine M_isWord (w := w_dots) hp rfl (ld _ (by decide)).1 (by decide) (fun a => ?_) (fun a => ?_)
  · dsimp only [hx1, rI]
    exact ⟨fun _ => c1 (Or.inl a), fun g => absurd g (by decide)⟩
  · dsimp only [hx1, rI]
    refine ⟨fun g => absurd rfl g, fun _ => ?_⟩
    refine M_isWord (w := w_named) hp rfl (ld _ (by decide)).1 (by decide) (fun a1 => ?_) (fun a1 => ?_)
    · dsimp only [hx1, rI]
      exact ⟨fun _ => c1 (Or.inr (Or.inl a1)), fun g => absurd g (by decide)⟩
    · dsimp only [hx1, rI]
      refine ⟨fun g => absurd rfl g, fun _ => ?_⟩
      refine M_isWord (w := w_namings) hp rfl (ld _ (by decide)).1 (by decide) (fun a2 => ?_) (fun a2 => ?_)
      · dsimp only [hx1, rI]
        exact ⟨fun _ => c1 (Or.inr (Or.inr (Or.inl a2))), fun g => absurd g (by decide)⟩
      · dsimp only [hx1, rI]
        refine ⟨fun g => absurd rfl g, fun _ => ?_⟩
        refine M_isWord (w := w_specks) hp rfl (ld _ (by decide)).1 (by decide) (fun a3 => ?_) (fun a3 => ?_)
        · dsimp only [hx1, rI]
          exact ⟨fun g => absurd g (by decide), fun _ => c1 (Or.inr (Or.inr (Or.inr a3)))⟩
        · dsimp only [hx1, rI]
          exact ⟨fun _ => c0 (by rintro (g | g | g | g); exact a g; exact a1 g; exact a2 g; exact a3 g), fun g => absurd rfl g⟩
