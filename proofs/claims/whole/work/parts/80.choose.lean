/-! ===== CHOSEN, the class ===== -/
def isc (W : Nat → WE) (k v : Nat) : Nat := cnt (fun s => bz (W k).1 s && v.testBit s) 32
theorem bcn_and (x : Int32) {v : Nat} (hv : v < 65536) : bcn (x &&& iI (v : Nat)) = cnt (fun s => bz x s && v.testBit s) 32 := by
  unfold bcn
  exact cnt_congr 32 (fun i hi => by rw [bz_and, bz_nat v (by omega)])
def canM (n : Nat) (W : Nat → WE) (v o left : Nat) : Prop := ∀ k, k < n → (W k).2 - (isc W k v : Nat) ≤ (left : Nat) ∧ (W k).2 - (isc W k v : Nat) ≤ (isc W k o : Nat)
theorem C_canMeet {d n v o left : Nat} {W : Nat → WE} {x y z : Int32} {P0 P1 P2 P3 P4 P5 : PS} {R : List PS} {Q : Option AV → List PS → Prop} (hx : x = iI (v : Nat)) (hy' : y = iI (o : Nat)) (hz : z = iI (left : Nat)) (hv : v < 65536) (ho : o < 65536) (hle : left ≤ 100) (hW : WtC n W P5) (hy : canM n W v o left → Q (some (vI (oI true))) (P0 :: P1 :: P2 :: P3 :: P4 :: P5 :: R)) (hn : ¬ canM n W v o left → Q (some (vI (oI false))) (P0 :: P1 :: P2 :: P3 :: P4 :: P5 :: R)) : Tri 92 (d + 1) [vR 5 0 0, vI x, vI y, vI z] (P0 :: P1 :: P2 :: P3 :: P4 :: P5 :: R) Q := by
  subst hx hy' hz
  have hn100 := hW.2.1
  refine enX8_canMeet ?_
  unfold fX8_canMeet_0
  have key : ∀ m k : Nat, k + m = n → (∀ q, q < k → (W q).2 - (isc W q v : Nat) ≤ (left : Nat) ∧ (W q).2 - (isc W q v : Nat) ≤ (isc W q o : Nat)) → cX8_canMeet_3 (0, 0, 0, 0) d (iI (v : Nat)) (iI (o : Nat)) (iI (left : Nat)) (iI (k : Nat)) P0 P1 P2 P3 P4 P5 R Q := by
    intro m
    induction m with
    | zero =>
      intro k hk hq
      have ek : k = n := by omega
      subst ek
      refine gX8_canMeet_3 ?_
      unfold fX8_canMeet_3
      rw [hW.1]
      simp (disch := omega) only [iI_le]
      exact ⟨fun _ => ⟨Or.inr trivial, hy hq⟩, fun c => absurd (by omega) c⟩
    | succ m ih =>
      intro k hk hq
      obtain ⟨e1, e2, e3, e4⟩ := hW.2.2 k (by omega)
      have i1 : isc W k v ≤ 32 := cnt_le _ _
      have i2 : isc W k o ≤ 32 := cnt_le _ _
      refine gX8_canMeet_3 ?_
      unfold fX8_canMeet_3
      rw [hW.1]
      simp (disch := omega) only [show (100 : Int32) = iI 100 from rfl, iI_le, iI_in, iI_cl, Int.toNat_natCast]
      rw [e1, e2]
      refine ⟨fun c => absurd c (by omega), fun _ => ⟨fun c => absurd c (by omega), fun _ => ⟨by omega, by omega, J_bitCount ?_⟩⟩⟩
      dsimp only [hx6, rI]
      rw [bcn_and _ hv, show cnt (fun s => bz (W k).1 s && v.testBit s) 32 = isc W k v from rfl, iI_sub, e1, iI_lt (by omega) (by omega) (by omega) (by omega)]
      refine ⟨fun c => ⟨Or.inl trivial, hn (fun g => by have := (g k (by omega)).1; omega)⟩, fun c => ⟨by omega, J_bitCount ?_⟩⟩
      dsimp only [hx6, rI]
      rw [bcn_and _ ho, show cnt (fun s => bz (W k).1 s && o.testBit s) 32 = isc W k o from rfl, iI_le (by omega) (by omega) (by omega) (by omega), show (1 : Int32) = iI 1 from rfl, iI_add]
      refine ⟨fun c1 => ih (k + 1) (by omega) (fun q hq' => ?_), fun c1 => ⟨Or.inl trivial, hn (fun g => c1 (g k (by omega)).2)⟩⟩
      by_cases cq : q = k
      · rw [cq]; exact ⟨by omega, c1⟩
      · exact hq q (by omega)
  exact key n 0 (by omega) (fun q hq => absurd hq (Nat.not_lt_zero q))
def satW (n : Nat) (W : Nat → WE) (v : Nat) : Prop := ∀ k, k < n → met (fun s => v.testBit s) (W k)
theorem tb_add {s v u : Nat} (hv : v % 2 ^ s = 0) (hu : u < 2 ^ s) (i : Nat) : (v + u).testBit i = (v.testBit i || u.testBit i) := by
  have e : v = 2 ^ s * (v / 2 ^ s) := by have := Nat.div_add_mod v (2 ^ s); omega
  have hpos : 0 < 2 ^ s := Nat.pow_pos (by omega)
  generalize v / 2 ^ s = q at e
  subst e
  rw [Nat.testBit_two_pow_mul_add _ hu]
  have e2 : (2 ^ s * q).testBit i = if i < s then false else q.testBit (i - s) := by
    have := Nat.testBit_two_pow_mul_add q hpos i
    rw [Nat.add_zero] at this
    rw [this, Nat.zero_testBit]
  rw [e2]
  by_cases c : i < s
  · simp [c]
  · have : u.testBit i = false := Nat.testBit_lt_two_pow (Nat.lt_of_lt_of_le hu (Nat.pow_le_pow_right (by omega) (by omega)))
    simp [c, this]
theorem cnt_or (p q : Nat → Bool) : ∀ n, cnt (fun i => p i || q i) n ≤ cnt p n + cnt q n
  | 0 => Nat.le_refl _
  | n + 1 => by
    have := cnt_or p q n
    show cnt (fun i => p i || q i) n + (if (p n || q n) = true then 1 else 0) ≤ (cnt p n + (if p n = true then 1 else 0)) + (cnt q n + (if q n = true then 1 else 0))
    cases p n <;> cases q n <;> simp <;> omega
theorem on16_32 {u : Nat} (hu : u < 65536) : cnt (fun i => u.testBit i) 32 = on16 u := by
  unfold on16
  rw [← cnt_cut (fun i => u.testBit i) 32 (show 16 ≤ 32 by omega)]
  refine cnt_congr 32 (fun i hi => ?_)
  by_cases c : i < 16
  · simp [c]
  · have : u.testBit i = false := Nat.testBit_lt_two_pow (Nat.lt_of_lt_of_le (show u < 2 ^ 16 by omega) (Nat.pow_le_pow_right (by omega) (by omega)))
    simp [this]
theorem can_no {n s v u left : Nat} {W : Nat → WE} (hs : s ≤ 16) (hv : v % 2 ^ s = 0) (hu : u < 2 ^ s) (hle : on16 u ≤ left) (h : satW n W (v + u)) : canM n W v (2 ^ s - 1) left := by
  intro k hk
  have h1 : (W k).2 ≤ (cnt (fun t => bz (W k).1 t && (v + u).testBit t) 32 : Nat) := h k hk
  have hp : 2 ^ s ≤ 2 ^ 16 := Nat.pow_le_pow_right (by omega) hs
  have e : cnt (fun t => bz (W k).1 t && (v + u).testBit t) 32 ≤ isc W k v + cnt (fun t => bz (W k).1 t && u.testBit t) 32 := by
    refine Nat.le_trans (cnt_mono 32 (fun i hi q => ?_)) (cnt_or (fun t => bz (W k).1 t && v.testBit t) (fun t => bz (W k).1 t && u.testBit t) 32)
    rw [tb_add hv hu] at q
    simp only [Bool.and_eq_true, Bool.or_eq_true] at q ⊢
    rcases q.2 with g | g
    · exact Or.inl ⟨q.1, g⟩
    · exact Or.inr ⟨q.1, g⟩
  have e2 : cnt (fun t => bz (W k).1 t && u.testBit t) 32 ≤ on16 u := by
    rw [← on16_32 (by omega)]
    exact cnt_mono 32 (fun i hi q => by simp only [Bool.and_eq_true] at q; exact q.2)
  have e3 : cnt (fun t => bz (W k).1 t && u.testBit t) 32 ≤ isc W k (2 ^ s - 1) := cnt_mono 32 (fun i hi q => by
    simp only [Bool.and_eq_true] at q ⊢
    refine ⟨q.1, ?_⟩
    rw [Nat.testBit_two_pow_sub_one]
    by_cases c : i < s
    · simp [c]
    · have : u.testBit i = false := Nat.testBit_lt_two_pow (Nat.lt_of_lt_of_le hu (Nat.pow_le_pow_right (by omega) (by omega)))
      rw [this] at q; exact absurd q.2 (by decide))
  omega
theorem on16_up {s u : Nat} (hs : s < 16) (hu : u < 2 ^ s) : on16 (2 ^ s + u) = on16 u + 1 := by
  unfold on16
  have ht : ∀ i, (2 ^ s + u).testBit i = (decide (i = s) || u.testBit i) := fun i => by
    rw [tb_add (s := s) (Nat.mod_self _) hu, Nat.testBit_two_pow]
    congr 1
    exact decide_eq_decide.mpr ⟨fun q => q.symm, fun q => q.symm⟩
  refine cnt_upd (k := s) (Nat.testBit_lt_two_pow hu) ?_ (fun i hi => ?_) 16 hs
  · rw [ht]; simp
  · rw [ht]; simp [hi]
theorem or_up {s v : Nat} (hs : s < 16) (hv : v % 2 ^ (s + 1) = 0) (hv6 : v < 65536) : iI (v : Nat) ||| ((1 : Int32) <<< ((iI (s : Nat)) &&& 31)) = iI ((v + 2 ^ s : Nat)) := by
  have h2 : 2 ^ s < 2 ^ 16 := Nat.pow_lt_pow_right (by omega) hs
  apply bz_ext
  intro i hi
  rw [bz_or, bz_nat v (by omega), bz_1 s (by omega) i hi, bz_nat _ (by omega), tb_add (s := s + 1) hv (Nat.pow_lt_pow_right (by omega) (by omega)), Nat.testBit_two_pow]
  congr 1
  exact decide_eq_decide.mpr ⟨fun q => q.symm, fun q => q.symm⟩
theorem up_lt {s v : Nat} (hs : s < 16) (hv : v % 2 ^ (s + 1) = 0) (hv6 : v < 65536) : v + 2 ^ s < 65536 := by
  have e : v = 2 ^ (s + 1) * (v / 2 ^ (s + 1)) := by have := Nat.div_add_mod v (2 ^ (s + 1)); omega
  have e2 : 65536 = 2 ^ (s + 1) * 2 ^ (15 - s) := by rw [← Nat.pow_add, show s + 1 + (15 - s) = 16 by omega]
  have hpos : 0 < 2 ^ (s + 1) := Nat.pow_pos (by omega)
  have h1 : v / 2 ^ (s + 1) < 2 ^ (15 - s) := by
    apply Nat.lt_of_mul_lt_mul_left (a := 2 ^ (s + 1))
    omega
  have h2 : 2 ^ (s + 1) * (v / 2 ^ (s + 1) + 1) ≤ 2 ^ (s + 1) * 2 ^ (15 - s) := Nat.mul_le_mul_left _ h1
  rw [Nat.mul_add] at h2
  have h3 : 2 ^ s < 2 ^ (s + 1) := Nat.pow_lt_pow_right (by omega) (by omega)
  omega
theorem C_chooseBelow {d n : Nat} {W : Nat → WE} {P0 P1 P2 P3 P4 P5 : PS} {R : List PS} (hW : WtC n W P5) : ∀ (s left v : Nat) (x y z : Int32) (Q : Option AV → List PS → Prop), x = iI (s : Nat) → y = iI (left : Nat) → z = iI (v : Nat) → s ≤ 16 → left ≤ 16 → v % 2 ^ s = 0 → v < 65536 →
    (∀ u P', u < 2 ^ s → on16 u ≤ left → satW n W (v + u) → (∀ u', u' < 2 ^ s → on16 u' ≤ left → satW n W (v + u') → u ≤ u') → gI P' 0 8 = iI ((v + u : Nat)) → Fr [8] [] [] [] P5 P' → Q (some (vI (oI true))) (P0 :: P1 :: P2 :: P3 :: P4 :: P' :: R)) →
    ((∀ u, u < 2 ^ s → on16 u ≤ left → ¬ satW n W (v + u)) → Q (some (vI (oI false))) (P0 :: P1 :: P2 :: P3 :: P4 :: P5 :: R)) → Tri 91 (d + s + 2) [vR 5 0 0, vI x, vI y, vI z] (P0 :: P1 :: P2 :: P3 :: P4 :: P5 :: R) Q := by
  intro s
  induction s with
  | zero =>
    intro left v x y z Q hx hy hz hs hle hv hv6 hyes hno
    subst hx hy hz
    refine enX8_chooseBelow ?_
    unfold fX8_chooseBelow_0
    refine ⟨fun c => absurd c (by decide), fun _ => ⟨fun c => absurd c (by decide), fun _ => ?_⟩⟩
    refine C_canMeet (v := v) (o := 0) (left := left) rfl (by decide) rfl hv6 (by omega) (by omega) hW (fun g => ?_) (fun g => ?_)
    · dsimp only [hx6, rI]
      refine ⟨fun _ => ⟨fun c => absurd rfl c, fun _ => ⟨Or.inr rfl, hyes 0 _ (by omega) (Nat.zero_le _) (fun k hk => ?_) (fun u' _ _ _ => Nat.zero_le _) ?_ (Fr.rf.sI (by simp))⟩⟩, fun c => absurd c (by decide)⟩
      · have h1 := (g k hk).2
        have h2 : isc W k 0 = 0 := cnt_zero 32 (fun i _ => by rw [Nat.zero_testBit, Bool.and_false])
        show (W k).2 ≤ (isc W k (v + 0) : Nat)
        rw [Nat.add_zero]
        omega
      · rfl
    · dsimp only [hx6, rI]
      exact ⟨fun c => absurd rfl c, fun _ => ⟨Or.inl rfl, hno (fun u hu hl g' => g (by have := can_no (s := 0) (by omega) hv hu hl g'; exact this))⟩⟩
  | succ s ih =>
    intro left v x y z Q hx hy hz hs hle hv hv6 hyes hno
    subst hx hy hz
    have h2s : 2 ^ (s + 1) = 2 * 2 ^ s := by rw [Nat.pow_succ]; omega
    have hp16 : 2 ^ (s + 1) ≤ 2 ^ 16 := Nat.pow_le_pow_right (by omega) hs
    have hpos : 0 < 2 ^ s := Nat.pow_pos (by omega)
    have hv1 : v % 2 ^ s = 0 := Nat.mod_eq_zero_of_dvd (Nat.dvd_trans (Nat.pow_dvd_pow 2 (by omega)) (Nat.dvd_of_mod_eq_zero hv))
    refine enX8_chooseBelow ?_
    unfold fX8_chooseBelow_0
    rw [one_sl _ hs]
    simp (disch := omega) only [show (0 : Int32) = iI 0 from rfl, show (16 : Int32) = iI 16 from rfl, iI_lt, iI_eq, iI_le]
    refine ⟨fun c => absurd c (by omega), fun _ => ⟨fun c => absurd c (by omega), fun _ => ?_⟩⟩
    refine C_canMeet (v := v) (o := 2 ^ (s + 1) - 1) (left := left) rfl (by rw [show (1 : Int32) = iI 1 from rfl, iI_sub]; congr 1; omega) rfl hv6 (by omega) (by omega) hW (fun g => ?_) (fun g => ?_)
    · dsimp only [hx6, rI]
      refine ⟨fun _ => ⟨fun _ => ?_, fun c => absurd c (by omega)⟩, fun c => absurd c (by decide)⟩
      refine ih left v _ _ _ _ (by rw [show (1 : Int32) = iI 1 from rfl, iI_sub]; congr 1; omega) rfl rfl (by omega) hle hv1 hv6 (fun u P' h1 h2 h3 h4 h5 h6 => ?_) (fun h1 => ?_)
      · dsimp only [hx6, rI]
        refine ⟨fun c => absurd c (by decide), fun _ => ⟨Or.inr trivial, hyes u P' (by omega) h2 h3 (fun u' g1 g2 g3 => ?_) h5 h6⟩⟩
        by_cases c : u' < 2 ^ s
        · exact h4 u' c g2 g3
        · omega
      · dsimp only [hx6, rI]
        refine ⟨fun _ => ⟨fun c => ⟨Or.inl trivial, hno (fun u g1 g2 g3 => ?_)⟩, fun c => ?_⟩, fun c => absurd rfl c⟩
        · by_cases cu : u < 2 ^ s
          · exact h1 u cu g2 g3
          · have := on16_up (s := s) (u := u - 2 ^ s) (by omega) (by omega)
            rw [show 2 ^ s + (u - 2 ^ s) = u by omega] at this
            omega
        · have hmod : (v + 2 ^ s) % 2 ^ s = 0 := by rw [Nat.add_mod_right]; exact hv1
          have est : iI ((s + 1 : Nat)) - 1 = iI (s : Nat) := by rw [show (1 : Int32) = iI 1 from rfl, iI_sub]; congr 1; omega
          rw [est]
          refine ih (left - 1) (v + 2 ^ s) _ _ _ _ rfl (by rw [show (1 : Int32) = iI 1 from rfl, iI_sub]; congr 1; omega) (or_up (by omega) hv hv6) (by omega) (by omega) hmod (up_lt (by omega) hv hv6) (fun u P' g1 g2 g3 g4 g5 g6 => ?_) (fun g1 => ?_)
          · dsimp only [hx6, rI]
            have e1 := on16_up (s := s) (u := u) (by omega) g1
            refine ⟨fun c => absurd c (by decide), fun _ => ⟨Or.inr trivial, hyes (2 ^ s + u) P' (by omega) (by omega) (by rw [← Nat.add_assoc]; exact g3) (fun u' k1 k2 k3 => ?_) (by rw [← Nat.add_assoc]; exact g5) g6⟩⟩
            by_cases cu : u' < 2 ^ s
            · exact absurd k3 (h1 u' cu k2)
            · have e2 := on16_up (s := s) (u := u' - 2 ^ s) (by omega) (by omega)
              rw [show 2 ^ s + (u' - 2 ^ s) = u' by omega] at e2
              have := g4 (u' - 2 ^ s) (by omega) (by omega) (by rw [show v + 2 ^ s + (u' - 2 ^ s) = v + u' by omega]; exact k3)
              omega
          · dsimp only [hx6, rI]
            refine ⟨fun _ => ⟨Or.inl trivial, hno (fun u k1 k2 k3 => ?_)⟩, fun c => absurd rfl c⟩
            by_cases cu : u < 2 ^ s
            · exact h1 u cu k2 k3
            · have e2 := on16_up (s := s) (u := u - 2 ^ s) (by omega) (by omega)
              rw [show 2 ^ s + (u - 2 ^ s) = u by omega] at e2
              exact g1 (u - 2 ^ s) (by omega) (by omega) (by rw [show v + 2 ^ s + (u - 2 ^ s) = v + u by omega]; exact k3)
    · dsimp only [hx6, rI]
      exact ⟨fun c => absurd rfl c, fun _ => ⟨Or.inl trivial, hno (fun u hu hl g' => g (can_no hs hv hu hl g'))⟩⟩
def ChC (l : List SR) (f : Nat → Int) (P : PS) : Prop := gI P 0 11 ≠ 0 → ∃ v, IsCh l f v ∧ gI P 0 8 = iI (v : Nat)
abbrev chI : List Nat := [10, 4, 5, 6, 7, 11, 8]
theorem C_choose {d jb : Nat} {l : List SR} {f : Nat → Int} {P0 P1 P2 P3 P4 P5 : PS} {R : List PS} {Q : Option AV → List PS → Prop} (hS : SsC jb l P2) (hT : TdC jb f P2) (hF : FOK f) (h16 : l.length ≤ 16) (hL : LoC l f P5) (hC : ChC l f P5) (h : ∀ v P', IsCh l f v → LoC l f P' → ChC l f P' → Fr chI [] svA [] P5 P' → Q (some (vI (iI (v : Nat)))) (P0 :: P1 :: P2 :: P3 :: P4 :: P' :: R)) : Tri 90 (d + 20) [vR 5 0 0, vR 2 jb 0] (P0 :: P1 :: P2 :: P3 :: P4 :: P5 :: R) Q := by
  refine enX8_choose ?_
  unfold fX8_choose_0
  refine C_lookAround (d := d + 16) hS hT hF hL (fun A kA lA fA => ?_)
  dsimp only [hx6, rV]
  have fA' : Fr chI [] svA [] P5 A := fA.mono (by simp) (by simp) (by simp) (by simp)
  have eC : ∀ a, a = 11 ∨ a = 8 → gI A 0 a = gI P5 0 a := fun a ha => fA.2.1 _ (by simp; omega)
  refine ⟨fun c => ?_, fun c => ⟨Or.inr rfl, ?_⟩⟩
  · obtain ⟨v, hv, ev⟩ := hC (by rw [← eC _ (Or.inl rfl)]; exact c)
    have e8 : gI A 0 8 = iI (v : Nat) := by rw [eC 8 (Or.inr rfl)]; exact ev
    rw [e8]
    exact h v A hv lA (fun _ => ⟨v, hv, e8⟩) fA'
  obtain ⟨lkA', n, W, wA, hq⟩ := lA kA
  have f0 : Fr chI [] svA [] P5 (sI (sI A 0 11 (1 : Int32)) 0 8 (0 : Int32)) := (fA'.sI (by simp)).sI (by simp)
  have w0 : WtC n W (sI (sI A 0 11 (1 : Int32)) 0 8 (0 : Int32)) := wA
  have lo0 : LkC (lkA l f (nLk f)) (sI (sI A 0 11 (1 : Int32)) 0 8 (0 : Int32)) := lkA'
  generalize sI (sI A 0 11 (1 : Int32)) 0 8 (0 : Int32) = B at *
  have key : ∀ m k : Nat, k + m = l.length + 1 → (∀ u, u < 2 ^ l.length → on16 u < k → ¬ satW n W u) → cX8_choose_26 (0, 0, 0, 0) (d + 19) jb 0 (iI (k : Nat)) P0 P1 P2 P3 P4 B R Q := by
    intro m
    induction m with
    | zero =>
      intro k hk hno
      exfalso
      refine hno (2 ^ l.length - 1) (by have : 0 < 2 ^ l.length := Nat.pow_pos (by omega); omega) (by rw [on16_full _ h16]; omega) ?_
      exact (hq _).mpr (enT_all (fun s hs => by rw [Nat.testBit_two_pow_sub_one, decide_eq_true hs]))
    | succ m ih =>
      intro k hk hno
      refine gX8_choose_26 ?_
      unfold fX8_choose_26
      rw [hS.1]
      simp (disch := omega) only [iI_lt]
      refine ⟨fun c => absurd c (by omega), fun _ => ⟨fun c => absurd trivial c, fun _ => ?_⟩⟩
      have := C_chooseBelow (d := d + 17 - l.length) (P0 := P0) (P1 := P1) (P2 := P2) (P3 := P3) (P4 := P4) (R := R) w0 l.length k 0 _ _ _ (fun r2 h2 => hx6 h2 fun P0_2 P1_2 P2_2 P3_2 P4_2 P5_2 R_2 => rI r2 fun y2 => cX8_choose_26 (0, 0, 0, 0) (d + 19) jb y2 (iI (k : Nat) + (1 : Int32)) P0_2 P1_2 P2_2 P3_2 P4_2 P5_2 R_2 Q) rfl rfl rfl h16 (by omega) (by simp) (by omega) (fun u P' h1 h2 h3 h4 h5 h6 => ?_) (fun h1 => ?_)
      · rw [show d + 17 - l.length + l.length + 2 = d + 19 by omega] at this; exact this
      · dsimp only [hx6, rI]
        rw [Nat.zero_add] at h3 h5
        have hu : on16 u = k := by
          by_cases c : on16 u < k
          · exact absurd h3 (hno u h1 c)
          · omega
        have ich : IsCh l f u := ⟨h1, (hq _).mp h3, fun u' g1 g2 => by
          have s' : satW n W u' := (hq _).mpr g2
          by_cases c : on16 u' < k
          · exact absurd s' (hno u' g1 c)
          · by_cases c2 : on16 u' = k
            · exact Or.inr ⟨by omega, h4 u' g1 (by omega) (by rw [Nat.zero_add]; exact s')⟩
            · omega⟩
        have F2 : Fr chI [] svA [] P5 P' := f0.trs (h6.mono (by simp) (by simp) (by simp) (by simp))
        have L2 : LoC l f P' := fun _ => ⟨⟨by rw [h6.2.1 _ (by simp)]; exact lo0.1, by rw [h6.2.1 _ (by simp)]; exact lo0.2.1, by rw [h6.2.1 _ (by simp)]; exact lo0.2.2⟩, n, W, ⟨by rw [h6.2.1 _ (by simp)]; exact w0.1, w0.2.1, fun i hi => by rw [h6.2.2.2.1 _ _ (by simp), h6.2.2.2.1 _ _ (by simp)]; exact w0.2.2 i hi⟩, hq⟩
        have fin := h u P' ich L2 (fun _ => ⟨u, ich, h5⟩) F2
        refine gX8_choose_26 ?_
        unfold fX8_choose_26
        rw [show (gI P' 0 8) = iI (u : Nat) from h5]
        exact ⟨fun _ => fin, fun _ => ⟨fun _ => fin, fun c => absurd c (by decide)⟩⟩
      · dsimp only [hx6, rI]
        rw [show (1 : Int32) = iI 1 from rfl, iI_add]
        refine ih (k + 1) (by omega) (fun u g1 g2 g3 => ?_)
        exact h1 u g1 (by omega) (by rw [Nat.zero_add]; exact g3)
  exact key (l.length + 1) 0 (by omega) (fun u _ g => absurd g (Nat.not_lt_zero _))
theorem C_chosen {d k : Nat} {a : Int} {l : List SR} {f : Nat → Int} {P0 P1 P2 P3 P4 P5 P6 P7 P8 P9 P10 P11 P12 : PS} {R : List PS} {Q : Option AV → List PS → Prop} (ha : -2147483648 ≤ a ∧ a < 2147483648) (hk : gO P12 0 11 = some k) (hS : SsC k l P2) (hT : TdC k f P2) (hF : FOK f) (hL : LoC l f P5) (hC : ChC l f P5) (h : ∀ v P', (¬ (a < 0 ∨ 1 < a) → l.length ≤ 16 → IsCh l f v) → LoC l f P' → ChC l f P' → Fr chI [] svA [] P5 P' → Q (some (vI (iI (chosenS l v a)))) (P0 :: P1 :: P2 :: P3 :: P4 :: P' :: P6 :: P7 :: P8 :: P9 :: P10 :: P11 :: P12 :: R)) : Tri 150 (d + 21) [vR 12 0 0, vI (iI a)] (P0 :: P1 :: P2 :: P3 :: P4 :: P5 :: P6 :: P7 :: P8 :: P9 :: P10 :: P11 :: P12 :: R) Q := by
  have hl := hS.2.1
  refine enX11_chosen ?_
  unfold fX11_chosen_0
  unfold chosenS at h
  rw [hk]
  simp only [oM]
  rw [hS.1]
  simp (disch := omega) only [iI_lit, iI_lt, iI_le, iI_eq]
  refine ⟨fun c => ?_, fun c => ⟨fun c1 => ⟨fun c2 => ?_, fun c2 => ?_⟩, fun c1 => ?_⟩⟩
  · have := h 0 P5 (fun q => absurd (Or.inl c) q) hL hC Fr.rf; rw [if_pos (Or.inl c)] at this; exact this
  · refine C_choose hS hT hF (by omega) hL hC (fun v P' hv l' c' f' => ?_)
    dsimp only [hx13, rI]
    have hh := h v P' (fun _ _ => hv) l' c' f'
    rw [if_neg (by omega), if_neg (by omega)] at hh
    have h2 : 2 ^ l.length ≤ 2 ^ 16 := Nat.pow_le_pow_right (by omega) (by omega)
    refine ⟨fun q => ?_, fun q => J_bitCount ?_⟩
    · rw [if_neg q] at hh; exact hh
    · dsimp only [hx13, rI]
      rw [if_pos q] at hh
      have e : bcn (iI (v : Nat)) = on16 v := by
        rw [← on16_32 (show v < 65536 from Nat.lt_of_lt_of_le hv.1 h2)]
        exact cnt_congr 32 (fun i _ => bz_nat v (by have := hv.1; omega) i)
      rw [e]; exact hh
  · have := h 0 P5 (fun _ q => absurd q (by omega)) hL hC Fr.rf
    rw [if_neg (by omega), if_pos (by omega)] at this; exact this
  · have := h 0 P5 (fun q => absurd (by omega) q) hL hC Fr.rf
    rw [if_pos (by omega)] at this; exact this
