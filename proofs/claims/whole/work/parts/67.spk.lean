/-! ===== SPECKLESS, both sides ===== -/
def spkS (w a b : Int) (v : Bool) (g : Nat → Nat → Bool) : Prop := (0 ≤ a ∧ a < w) ∧ (0 ≤ b ∧ b < w) ∧ g a.toNat b.toNat ≠ v
theorem M_speckless {d : Nat} {a b w : Int} {v : Bool} {g : Nat → Nat → Bool} {P : PS} {R : List PS} {Q : Option AV → List PS → Prop} (ha : -2147483648 ≤ a ∧ a < 2147483648) (hb : -2147483648 ≤ b ∧ b < 2147483648) (hw : gA P 0 12 0 = iI w) (hw' : 0 ≤ w ∧ w ≤ 16) (hg : FpM g P)
    (hy : ∀ P', spkS w a b v g → FpM (upF g a.toNat b.toNat v) P' → Fr [] [] [27] [] P P' → Q (some (vI (oI true))) (P' :: R)) (hn : ¬ spkS w a b v g → Q (some (vI (oI false))) (P :: R)) : Tri 200 (d + 1) [vR 0 0 0, vI (iI a), vI (iI b), vI (oI v)] (P :: R) Q := by
  refine enX12_speckless ?_
  unfold fX12_speckless_0
  rw [show ((0 : Int32)).toNatClampNeg = 0 from rfl, hw]
  refine ⟨vpk (k := 0) (by omega) (by omega), M_isIn rfl rfl ha (by omega) ?_⟩
  dsimp only [hx1, rI]
  rw [oI_dec]
  refine ⟨fun c => ⟨Or.inl rfl, hn (fun q => c q.1)⟩, fun c => ⟨vpk (k := 0) (by omega) (by omega), M_isIn rfl hw hb (by omega) ?_⟩⟩
  dsimp only [hx1, rI]
  rw [oI_dec]
  refine ⟨fun c1 => ⟨Or.inl rfl, hn (fun q => c1 q.2.1)⟩, fun c1 => ?_⟩
  have c' := Decidable.not_not.mp c
  have c1' := Decidable.not_not.mp c1
  have e := hg a.toNat b.toNat (by omega) (by omega)
  simp (disch := omega) only [iI_lit, iI_mul, iI_add, iI_in, iI_cl]
  rw [show (16 * b + a).toNat = 16 * b.toNat + a.toNat by omega, e, oI_inj]
  refine ⟨by omega, fun c2 => ⟨by omega, oI_01 v, Or.inr trivial, ?_⟩, fun c2 => ⟨Or.inl trivial, hn (fun q => q.2.2 c2)⟩⟩
  refine hy _ ⟨c', c1', c2⟩ (fun c r hc hr => ?_) (Fr.rf.sA (by simp))
  rw [gA_sA, if_pos rfl, if_pos rfl]
  unfold upF
  by_cases q : c = a.toNat ∧ r = b.toNat
  · rw [if_pos (by omega), if_pos q]
  · rw [if_neg (by omega), if_neg q]; exact hg c r hc hr
theorem FpC.up {j c r : Nat} {g : Nat → Nat → Bool} {v : Bool} {P : PS} (h : FpC j g P) (hc : c < 16) (hr : r < 16) (hv : g c r ≠ v) : FpC j (upF g c r v) (sA P j 3 r (gA P j 3 r ^^^ ((1 : Int32) <<< ((iI (c : Nat)) &&& 31)))) := by
  have := h.flip hc hr
  have e : (fun c' r' => if c' = c ∧ r' = r then !g c' r' else g c' r') = upF g c r v := by
    funext c' r'; unfold upF; split
    · rename_i e; rw [e.1, e.2]; cases hg : g c r <;> cases v <;> simp_all
    · rfl
  rw [e] at this; exact this
theorem C_setSpeckless {d j c r : Nat} {v : Bool} {g : Nat → Nat → Bool} {P0 P1 P2 P3 P4 P5 P : PS} {R : List PS} {Q : Option AV → List PS → Prop} (hc : c < 16) (hr : r < 16) (hg : FpC j g P) (hp : gI P j 6 = iI (frN g : Nat))
    (hy : ∀ P', g c r ≠ v → FpC j (upF g c r v) P' → gI P' j 6 = iI (frN (upF g c r v) : Nat) → FrO j [6] [] [3] [] P P' → Q (some (vI (oI true))) (P0 :: P1 :: P2 :: P3 :: P4 :: P5 :: P' :: R)) (hn : g c r = v → Q (some (vI (oI false))) (P0 :: P1 :: P2 :: P3 :: P4 :: P5 :: P :: R)) : Tri 80 (d + 1) [vR 6 j 0, vI (iI (c : Nat)), vI (iI (r : Nat)), vI (oI v)] (P0 :: P1 :: P2 :: P3 :: P4 :: P5 :: P :: R) Q := by
  refine enX7_setSpeckless ?_
  unfold fX7_setSpeckless_0
  simp (disch := omega) only [iI_lit, iI_lt, iI_le, iI_in, iI_cl, Int.toNat_natCast]
  refine ⟨fun q => absurd q (by omega), fun _ => ⟨fun q => absurd q (by omega), fun _ => ?_⟩⟩
  have key : ∀ w : Bool, g c r = w → Q (some (vI (oI false))) (P0 :: P1 :: P2 :: P3 :: P4 :: P5 :: P :: R) → True := fun _ _ _ => trivial
  have on : g c r ≠ v → ((oI v = iI 0 → (iI 1 = iI 0 ∨ True) ∧ Q (some (vI (iI 1))) (P0 :: P1 :: P2 :: P3 :: P4 :: P5 :: (sI (sA P j 3 r ((gA P j 3 r) ^^^ (iI 1 <<< ((iI (c : Nat)) &&& iI 31)))) j 6 ((gI P j 6) + -iI 1)) :: R)) ∧ (¬ oI v = iI 0 → (iI 1 = iI 0 ∨ True) ∧ Q (some (vI (iI 1))) (P0 :: P1 :: P2 :: P3 :: P4 :: P5 :: (sI (sA P j 3 r ((gA P j 3 r) ^^^ (iI 1 <<< ((iI (c : Nat)) &&& iI 31)))) j 6 ((gI P j 6) + iI 1)) :: R))) := by
    intro hv
    rw [hp, show iI 0 = (0 : Int32) from rfl, oI_z, iI_neg, iI_add, iI_add]
    refine ⟨fun q => ⟨Or.inr trivial, hy _ hv (hg.up hc hr hv) ?_ (FrO.rf.sA.sI)⟩, fun q => ⟨Or.inr trivial, hy _ hv (hg.up hc hr hv) ?_ (FrO.rf.sA.sI)⟩⟩
    · rw [gI_sI, if_pos rfl, if_pos rfl, q]
      have := frN_unset (g := g) hc hr (by rw [q] at hv; simpa using hv)
      refine congrArg iI ?_; omega
    · have q' : v = true := by simpa using q
      rw [gI_sI, if_pos rfl, if_pos rfl, q']
      have := frN_set (g := g) hc hr (by rw [q'] at hv; simpa using hv)
      refine congrArg iI ?_; omega
  refine C_isSpeckless hc hr hg (fun e => ?_) (fun e => ?_)
  · dsimp only [hx7, rI]
    rw [show iI 1 = oI true from rfl, oI_inj]
    refine ⟨fun q => ⟨by omega, by omega, on (by rw [e]; exact q)⟩, fun q => ⟨Or.inl trivial, hn (by rw [e]; exact q)⟩⟩
  · dsimp only [hx7, rI]
    rw [show iI 0 = oI false from rfl, oI_inj]
    refine ⟨fun q => ⟨by omega, by omega, on (by rw [e]; exact q)⟩, fun q => ⟨Or.inl trivial, hn (by rw [e]; exact q)⟩⟩
theorem C_speckless {d k : Nat} {a b w : Int} {v : Bool} {g : Nat → Nat → Bool} {P0 P1 P2 P3 P4 P5 P P7 P8 P9 P10 P11 P12 : PS} {R : List PS} {Q : Option AV → List PS → Prop} (ha : -2147483648 ≤ a ∧ a < 2147483648) (hb : -2147483648 ≤ b ∧ b < 2147483648) (hk : gO P12 0 11 = some k) (hw : gI P2 k 6 = iI w) (hw' : 0 ≤ w ∧ w ≤ 16) (hg : FpC 0 g P) (hp : gI P 0 6 = iI (frN g : Nat))
    (hy : ∀ P', spkS w a b v g → FpC 0 (upF g a.toNat b.toNat v) P' → gI P' 0 6 = iI (frN (upF g a.toNat b.toNat v) : Nat) → FrO 0 [6] [] [3] [] P P' → Q (some (vI (oI true))) (P0 :: P1 :: P2 :: P3 :: P4 :: P5 :: P' :: P7 :: P8 :: P9 :: P10 :: P11 :: P12 :: R)) (hn : ¬ spkS w a b v g → Q (some (vI (oI false))) (P0 :: P1 :: P2 :: P3 :: P4 :: P5 :: P :: P7 :: P8 :: P9 :: P10 :: P11 :: P12 :: R)) : Tri 132 (d + 2) [vR 12 0 0, vI (iI a), vI (iI b), vI (oI v)] (P0 :: P1 :: P2 :: P3 :: P4 :: P5 :: P :: P7 :: P8 :: P9 :: P10 :: P11 :: P12 :: R) Q := by
  refine enX11_speckless ?_
  unfold fX11_speckless_0
  rw [hk]
  simp only [oM]
  rw [hw]
  simp (disch := omega) only [iI_lit, iI_lt, iI_le]
  refine ⟨fun q => ⟨Or.inl trivial, hn (fun s => absurd s.1 (by omega))⟩, fun q1 => ⟨fun q => ⟨Or.inl trivial, hn (fun s => absurd s.1 (by omega))⟩, fun q2 => ⟨fun q => ⟨Or.inl trivial, hn (fun s => absurd s.2.1 (by omega))⟩, fun q3 => ⟨fun q4 => ?_, fun q => ⟨Or.inl trivial, hn (fun s => absurd s.2.1 (by omega))⟩⟩⟩⟩⟩
  have ea : a = (a.toNat : Nat) := by omega
  have eb : b = (b.toNat : Nat) := by omega
  rw [ea, eb]
  refine C_setSpeckless (v := v) (by omega) (by omega) hg hp (fun P' h1 h2 h3 h4 => ?_) (fun h1 => ?_)
  · dsimp only [hx13, rI]
    exact ⟨Or.inr rfl, hy P' ⟨by omega, by omega, h1⟩ h2 h3 h4⟩
  · dsimp only [hx13, rI]
    exact ⟨Or.inl rfl, hn (fun s => s.2.2 h1)⟩
/-! ===== ABOUT, both sides ===== -/
theorem M_about76 {z : Nat × Nat × Nat × Nat} {d : Nat} {g : Nat → Nat → Bool} {P : PS} {R : List PS} {Q : Option AV → List PS → Prop} (hg : FpM g P) (h : Q (some (vI (iI (frN g : Nat)))) (P :: R)) : cX12_about_76 z d 0 0 P R Q := by
  have key : ∀ m k : Nat, k + m = 256 → cX12_about_76 z d (iI (cnt (fun i => g (i % 16) (i / 16)) k : Nat)) (iI (k : Nat)) P R Q := by
    intro m
    induction m with
    | zero =>
      intro k hk
      refine gX12_about_76 ?_
      unfold fX12_about_76
      simp (disch := omega) only [iI_lit, iI_le]
      refine ⟨fun _ => ?_, fun c => absurd (by omega) c⟩
      rw [show k = 256 by omega]; exact h
    | succ m ih =>
      intro k hk
      refine gX12_about_76 ?_
      unfold fX12_about_76
      have e := hg (k % 16) (k / 16) (by omega) (by omega)
      rw [show 16 * (k / 16) + k % 16 = k by omega] at e
      have ih' := ih (k + 1) (by omega)
      simp (disch := omega) only [iI_lit, iI_le, iI_in, iI_cl, Int.toNat_natCast, iI_add]
      rw [e, show iI 0 = (0 : Int32) from rfl, oI_z]
      have e2 : cnt (fun i => g (i % 16) (i / 16)) (k + 1) = cnt (fun i => g (i % 16) (i / 16)) k + (if g (k % 16) (k / 16) = true then 1 else 0) := rfl
      rw [e2] at ih'
      refine ⟨fun c => absurd c (by omega), fun _ => ⟨by omega, fun c => ?_, fun c => ?_⟩⟩
      · rw [c] at ih'; simpa using ih'
      · rw [show g (k % 16) (k / 16) = true by simpa using c] at ih'; simpa using ih'
  exact key 256 0 (by omega)
def aboutS (x : Int32) (st c ru t n un fr : Int) : Int := if x = 0 then st else if x = 1 then c else if x = 2 then ru else if x = 3 then t else if x = 4 then n else if x = 5 then un else if x = 6 then fr else -1
theorem M_about {d : Nat} {x : Int32} {g : Nat → Nat → Bool} {st c ru t n un : Int} {P : PS} {R : List PS} {Q : Option AV → List PS → Prop} (h1 : gI P 0 22 = iI st) (h2 : gI P 0 28 = iI c) (h3 : gI P 0 83 = iI ru) (h4 : gI P 0 29 = iI t) (h5 : gI P 0 1 = iI n) (h6 : gI P 0 84 = iI un) (hg : FpM g P) (h : Q (some (vI (iI (aboutS x st c ru t n un (frN g : Nat))))) (P :: R)) : Tri 284 d [vR 0 0 0, vI x] (P :: R) Q := by
  refine enX12_about ?_
  unfold fX12_about_0
  unfold aboutS at h
  rw [h1, h2, h3, h4, h5, h6]
  refine ⟨fun q => ?_, fun q0 => ⟨fun q => ?_, fun q1 => ⟨fun q => ?_, fun q2 => ⟨fun q => ?_, fun q3 => ⟨fun q => ?_, fun q4 => ⟨fun q => ?_, fun q5 => ⟨fun q => M_about76 hg ?_, fun q6 => ?_⟩⟩⟩⟩⟩⟩⟩
  all_goals simp_all
  all_goals exact h
theorem C_about {d k r : Nat} {x : Int32} {st c ru t n un fr : Int} {P0 P1 P2 P3 P4 P5 P6 P7 P8 P9 P10 P11 P12 : PS} {R : List PS} {Q : Option AV → List PS → Prop} (hk : gO P12 0 11 = some k) (hr : gO P12 0 13 = some r) (h1 : gI P2 k 5 = iI st) (h2 : gI P6 0 4 = iI c) (h3 : gI P4 r 4 = iI ru) (h4 : gI P6 0 5 = iI t) (h5 : gI P1 0 1 = iI n) (h6 : gI P4 r 5 = iI un) (h7 : gI P6 0 6 = iI fr) (h : Q (some (vI (iI (aboutS x st c ru t n un fr)))) (P0 :: P1 :: P2 :: P3 :: P4 :: P5 :: P6 :: P7 :: P8 :: P9 :: P10 :: P11 :: P12 :: R)) : Tri 157 d [vR 12 0 0, vI x] (P0 :: P1 :: P2 :: P3 :: P4 :: P5 :: P6 :: P7 :: P8 :: P9 :: P10 :: P11 :: P12 :: R) Q := by
  refine enX11_about ?_
  unfold fX11_about_0
  unfold aboutS at h
  rw [hk, hr]
  simp only [oM]
  rw [h1, h2, h3, h4, h5, h6, h7]
  refine ⟨fun q => ?_, fun q0 => ⟨fun q => ?_, fun q1 => ⟨fun q => ?_, fun q2 => ⟨fun q => ?_, fun q3 => ⟨fun q => ?_, fun q4 => ⟨fun q => ?_, fun q5 => ⟨fun q => ?_, fun q6 => ?_⟩⟩⟩⟩⟩⟩⟩
  all_goals simp_all
  all_goals exact h
