/-! ===== FOLLOWED, FOLLOW: the Model; the class ===== -/
noncomputable def followedS (y : SY) (z a b x v u k : Int) (f : Nat → Int) : Int := if dcd (okF y a b x v k ∧ 0 ≤ u ∧ u ≤ 2) = true then (if u = 0 then ((fwT (fD y z k a.toNat b.toNat x v) (10 * f 4) (nP y z k b.toNat) (nP y z k a.toNat)).2 : Nat) else if u = 1 then (nP y z k a.toNat : Nat) - ((fwT (fD y z k a.toNat b.toNat x v) (10 * f 4) (nP y z k b.toNat) (nP y z k a.toNat)).2 : Nat) else (nP y z k b.toNat : Nat) - ((fwT (fD y z k a.toNat b.toNat x v) (10 * f 4) (nP y z k b.toNat) (nP y z k a.toNat)).2 : Nat)) else -1
noncomputable def followS (y : SY) (z a b x v u k : Int) (f : Nat → Int) : Int := if dcd (okF y a b x v k ∧ 0 ≤ u ∧ u < (nP y z k a.toNat : Nat)) = true then nr (fD y z k a.toNat b.toNat x v u.toNat) (fwT (fD y z k a.toNat b.toNat x v) (10 * f 4) (nP y z k b.toNat) u.toNat).1 (10 * f 4) (nP y z k b.toNat) else -1
theorem M_followed {d w : Nat} {y : SY} {z t a b x v u k : Int} {l : List SR} {f : Nat → Int} {P : PS} {R : List PS} {Q : Option AV → List PS → Prop} (ha : -2147483648 ≤ a ∧ a < 2147483648) (hb : -2147483648 ≤ b ∧ b < 2147483648) (hx : -2147483648 ≤ x ∧ x < 2147483648) (hv : -2147483648 ≤ v ∧ v < 2147483648) (hu : -2147483648 ≤ u ∧ u < 2147483648) (hk : -2147483648 ≤ k ∧ k < 2147483648) (hS : StM y w z t P) (hB : BoM l f P) (hF : FOK f) (h : ∀ P', Fr flI [] flA [] P P' → Q (some (vI (iI (followedS y z a b x v u k f)))) (P' :: R)) : Tri 250 (d + 5) [vR 0 0 0, vI (iI a), vI (iI b), vI (iI x), vI (iI v), vI (iI u), vI (iI k)] (P :: R) Q := by
  refine enX12_followed ?_
  unfold fX12_followed_0
  unfold followedS at h
  have v0 : iI u < (0 : Int32) ↔ u < 0 := by rw [show (0 : Int32) = iI 0 from rfl]; exact iI_lt (by omega) (by omega) (by omega) (by omega)
  have v1 : (2 : Int32) < iI u ↔ 2 < u := by rw [show (2 : Int32) = iI 2 from rfl]; exact iI_lt (by omega) (by omega) (by omega) (by omega)
  have v2 : iI u = (0 : Int32) ↔ u = 0 := by rw [show (0 : Int32) = iI 0 from rfl]; exact iI_eq (by omega) (by omega) (by omega) (by omega)
  have v3 : iI u = (1 : Int32) ↔ u = 1 := by rw [show (1 : Int32) = iI 1 from rfl]; exact iI_eq (by omega) (by omega) (by omega) (by omega)
  rw [v0, v1, v2, v3]
  have no : ∀ P', ¬ (okF y a b x v k ∧ 0 ≤ u ∧ u ≤ 2) → Fr flI [] flA [] P P' → Q (some (vI (-1))) (P' :: R) := fun P' c fP => by
    have := h P' fP
    rw [if_neg (fun g => c (dcd_t.mp g))] at this; exact this
  refine ⟨fun c => no P (by omega) Fr.rf, fun c => ⟨fun c1 => no P (by omega) Fr.rf, fun c1 => ?_⟩⟩
  refine M_seekFollowed rfl rfl rfl rfl rfl ha hb hx hv hk hS hB hF (fun A ok fl fA => ?_) (fun nk => ?_)
  · dsimp only [hx1, rI]
    have hh := h A fA
    rw [if_pos (dcd_t.mpr ⟨ok, by omega, by omega⟩)] at hh
    rw [show gI A 0 43 = _ from fl.2.1, show gI A 0 64 = _ from fl.1, show gI A 0 65 = _ from fl.2.2.1, iI_sub, iI_sub]
    refine ⟨fun _ => ⟨fun c2 => ⟨fun c3 => ?_, fun c3 => ?_⟩, fun c2 => ?_⟩, fun g => absurd g (by decide)⟩
    · rw [if_neg c2, if_neg c3] at hh; exact hh
    · rw [if_neg c2, if_pos c3] at hh; exact hh
    · rw [if_pos c2] at hh; exact hh
  · dsimp only [hx1, rI]
    exact ⟨fun g => absurd rfl g, fun _ => no P (fun g => nk g.1) Fr.rf⟩
theorem M_follow {d w : Nat} {y : SY} {z t a b x v u k : Int} {l : List SR} {f : Nat → Int} {P : PS} {R : List PS} {Q : Option AV → List PS → Prop} (ha : -2147483648 ≤ a ∧ a < 2147483648) (hb : -2147483648 ≤ b ∧ b < 2147483648) (hx : -2147483648 ≤ x ∧ x < 2147483648) (hv : -2147483648 ≤ v ∧ v < 2147483648) (hu : -2147483648 ≤ u ∧ u < 2147483648) (hk : -2147483648 ≤ k ∧ k < 2147483648) (hS : StM y w z t P) (hB : BoM l f P) (hF : FOK f) (h : ∀ P', Fr flI [] flA [] P P' → Q (some (vI (iI (followS y z a b x v u k f)))) (P' :: R)) : Tri 251 (d + 5) [vR 0 0 0, vI (iI a), vI (iI b), vI (iI x), vI (iI v), vI (iI u), vI (iI k)] (P :: R) Q := by
  have na12 := nP_le y z k a.toNat
  refine enX12_follow ?_
  unfold fX12_follow_0
  unfold followS at h
  have no : ∀ P', ¬ (okF y a b x v k ∧ 0 ≤ u ∧ u < (nP y z k a.toNat : Nat)) → Fr flI [] flA [] P P' → Q (some (vI (-1))) (P' :: R) := fun P' c fP => by
    have := h P' fP
    rw [if_neg (fun g => c (dcd_t.mp g))] at this; exact this
  refine M_seekFollowed rfl rfl rfl rfl rfl ha hb hx hv hk hS hB hF (fun A ok fl fA => ?_) (fun nk => ?_)
  · dsimp only [hx1, rI]
    refine ⟨fun g => absurd g (by decide), fun _ => M_isIn (b := (nP y z k a.toNat : Nat)) rfl fl.1 hu (by omega) ?_⟩
    dsimp only [hx1, rI]
    rw [oI_dec]
    refine ⟨fun c => no A (fun g => c g.2) fA, fun c => ?_⟩
    have c' := Decidable.not_not.mp c
    have hh := h A fA
    rw [if_pos (dcd_t.mpr ⟨ok, c'⟩)] at hh
    rw [iI_in (by omega) (by omega), iI_cl (a := u) (by omega) (by omega), show gA A 0 62 _ = _ from fl.2.2.2 u.toNat (by omega)]
    exact ⟨by omega, hh⟩
  · dsimp only [hx1, rI]
    exact ⟨fun _ => no P (fun g => nk g.1) Fr.rf, fun g => absurd rfl g⟩
theorem nrC_bd {D : Nat → Int} {tk : Nat → Bool} {M : Int} (hM : 0 ≤ M ∧ M ≤ 3000) : ∀ n : Nat, (∀ q, q < n → 0 ≤ D q ∧ D q ≤ 3000) → -1 ≤ (nrC D tk M n).1 ∧ (nrC D tk M n).1 < n ∧ 0 ≤ (nrC D tk M n).2 ∧ (nrC D tk M n).2 ≤ 3000
  | 0, _ => by unfold nrC; exact ⟨by omega, by omega, hM⟩
  | q + 1, h => by
    have ih := nrC_bd (tk := tk) hM q (fun i hi => h i (by omega))
    have d := h q (by omega)
    rw [nrC_s]
    split
    · exact ⟨by show (-1 : Int) ≤ q; omega, by show (q : Int) < (q + 1 : Nat); omega, d⟩
    · omega
theorem C_nearestPoint {d j b w : Nat} {y : SY} {z k X Y M : Int} {x1 x2 x3 x4 x5 : Int32} {D : Nat → Int} {tk : Nat → Bool} {P0 P1 P2 P3 : PS} {R : List PS} {Q : Option AV → List PS → Prop} (e3 : x3 = iI X) (e4 : x4 = iI Y) (e5 : x5 = iI M) (hK : LtK b w z (y.2.1 b)) (hP : PiC j (y.2.1 b) z P3) (hx : ∀ e, e < 32 → bz x1 e = (decide (e < nD (y.2.1 b) z) && ptB y z k b e)) (ht : ∀ e, e < 32 → bz x2 e = tk e) (hX : -2000 ≤ X ∧ X ≤ 2000) (hY : -2000 ≤ Y ∧ Y ≤ 2000) (hM : 0 ≤ M ∧ M ≤ 3000) (hD : ∀ q, q < nP y z k b → D q = abZ (ppX y z k b q - X) + abZ (ppY y z k b q - Y)) (hb : ∀ q, q < nP y z k b → 0 ≤ D q ∧ D q ≤ 3000) (h : Q (some (vI (iI (nr D tk M (nP y z k b))))) (P0 :: P1 :: P2 :: P3 :: R)) : Tri 42 d [vR 3 j 0, vI x1, vI x2, vI x3, vI x4, vI x5] (P0 :: P1 :: P2 :: P3 :: R) Q := by
  subst e3 e4 e5
  have h12 := (nD_le (y.2.1 b) z).1
  have nb12 := nP_le y z k b
  refine enX3_nearestPoint ?_
  unfold fX3_nearestPoint_0
  have key : ∀ (m e : Nat), e + m = nD (y.2.1 b) z → cX3_nearestPoint_13 (0, 0, 0, 0) d j x1 x2 (iI X) (iI Y) (iI (nrC D tk M (cnt (ptB y z k b) e)).1) (iI (nrC D tk M (cnt (ptB y z k b) e)).2) (iI (cnt (ptB y z k b) e : Nat)) (iI (e : Nat)) P0 P1 P2 P3 R Q := by
    intro m
    induction m with
    | zero =>
      intro e he
      have : e = nD (y.2.1 b) z := by omega
      subst this
      have en : cnt (ptB y z k b) (nD (y.2.1 b) z) = nP y z k b := rfl
      refine gX3_nearestPoint_13 ?_
      unfold fX3_nearestPoint_13
      rw [show gI P3 j 5 = _ from hP.1, iI_le (by omega) (by omega) (by omega) (by omega), en, nr_eC]
      exact ⟨fun _ => h, fun g => absurd (by omega) g⟩
    | succ m ih =>
      intro e he
      have st := ih (e + 1) (by omega)
      have ce := cnt_le (ptB y z k b) e
      have px := hP.2.1 e (by omega)
      have dk := dt_ok hK.2.2.2.1 hK.2.2.1.1 (show e < nD (y.2.1 b) z by omega)
      have cle : cnt (ptB y z k b) e ≤ nP y z k b := cnt_le_mono (ptB y z k b) (show e ≤ nD (y.2.1 b) z by omega)
      have nb := nrC_bd (tk := tk) hM (cnt (ptB y z k b) e) (fun q hq => hb q (by omega))
      rw [cnt_s] at st
      refine gX3_nearestPoint_13 ?_
      unfold fX3_nearestPoint_13
      have eb : bz x1 e = ptB y z k b e := by rw [hx e (by omega), decide_eq_true (by omega), Bool.true_and]
      rw [show gI P3 j 5 = _ from hP.1, iI_le (by omega) (by omega) (by omega) (by omega), show (12 : Int32) = iI 12 from rfl, iI_le (by omega) (by omega) (by omega) (by omega), bz_u x1 (show e < 32 by omega), eb, iI_cl (a := (e : Nat)) (by omega) (by omega), Int.toNat_natCast, show gA P3 j 0 e = _ from px.1, show gA P3 j 1 e = _ from px.2.1, iI_sub, iI_sub, abs_i (by omega) (by omega), abs_i (by omega) (by omega), iI_add, oI_z]
      refine ⟨fun g => absurd g (by omega), fun _ => ⟨fun g => absurd g (by omega), fun _ => ⟨fun c => ?_, fun c => ?_⟩⟩⟩
      · have c' : ptB y z k b e = true := by simpa using c
        rw [if_pos c'] at st
        have lt : cnt (ptB y z k b) e < nP y z k b := by
          have := cnt_le_mono (ptB y z k b) (show e + 1 ≤ nD (y.2.1 b) z by omega)
          rw [cnt_s, if_pos c'] at this
          exact this
        have pe : ptD y z k b (cnt (ptB y z k b) e) = e := nth_at c' _ (by omega)
        have eD := hD _ lt
        unfold ppX ppY at eD
        rw [pe] at eD
        rw [← eD]
        have dbd := hb _ lt
        rw [nrC_s] at st
        have vq : vp_in (iI (e : Nat)) 12 := vpk (by omega) (by omega)
        have go : ∀ s : Int32, (s = 0 ∨ s = 1) → (s = 1 ↔ ((nrC D tk M (cnt (ptB y z k b) e)).1 = -1 ∧ D (cnt (ptB y z k b) e) ≤ (nrC D tk M (cnt (ptB y z k b) e)).2 ∨ (nrC D tk M (cnt (ptB y z k b) e)).1 ≠ -1 ∧ D (cnt (ptB y z k b) e) < (nrC D tk M (cnt (ptB y z k b) e)).2)) → cX3_nearestPoint_102 (0, 0, 0, 0) d j x1 x2 (iI X) (iI Y) (iI (nrC D tk M (cnt (ptB y z k b) e)).1) (iI (nrC D tk M (cnt (ptB y z k b) e)).2) (iI (cnt (ptB y z k b) e : Nat)) (iI (e : Nat)) (iI (D (cnt (ptB y z k b) e))) s P0 P1 P2 P3 R Q := by
          intro s hs hs1
          refine gX3_nearestPoint_102 ?_
          unfold fX3_nearestPoint_102
          rw [bz_u x2 (show cnt (ptB y z k b) e < 32 by omega), ht _ (by omega), oI_z, show iI (cnt (ptB y z k b) e : Nat) + 1 = iI ((cnt (ptB y z k b) e + 1 : Nat)) from iI_add _ 1, show iI (e : Nat) + 1 = iI ((e + 1 : Nat)) from iI_add (e : Nat) 1]
          refine ⟨fun g => ?_, fun g => ⟨fun g1 => ?_, fun g1 => ?_⟩⟩
          · rw [if_neg (fun q => g q.1)] at st; exact st
          · rw [if_neg (fun q => by have := hs1.mpr q.2; rw [g1] at this; exact absurd this (by decide))] at st; exact st
          · rw [if_pos ⟨g, hs1.mp (hs.resolve_left g1)⟩] at st; exact st
        rw [show (-1 : Int32) = iI (-1) from rfl, iI_eq (by omega) (by omega) (by omega) (by omega), iI_le (by omega) (by omega) (by omega) (by omega), iI_lt (by omega) (by omega) (by omega) (by omega)]
        refine ⟨vq, vq, fun g => ⟨fun g1 => ?_, fun g1 => ?_⟩, fun g => ⟨fun g1 => ?_, fun g1 => ?_⟩⟩
        · exact go 0 (Or.inl rfl) ⟨fun q => absurd q (by decide), fun q => by omega⟩
        · exact go 1 (Or.inr rfl) ⟨fun _ => by omega, fun _ => rfl⟩
        · exact go 0 (Or.inl rfl) ⟨fun q => absurd q (by decide), fun q => by omega⟩
        · exact go 1 (Or.inr rfl) ⟨fun _ => by omega, fun _ => rfl⟩
      · rw [if_neg (by rw [c]; decide), Nat.add_zero] at st
        rw [show iI (e : Nat) + 1 = iI ((e + 1 : Nat)) from iI_add (e : Nat) 1]; exact st
  exact key (nD (y.2.1 b) z) 0 (by omega)
