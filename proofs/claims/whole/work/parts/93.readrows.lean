/-! ===== the class: the rows of a PICTURE ===== -/
theorem C_byteAt' {d n k : Nat} {b : Nat → Int} {x : Int32} {P0 P1 : PS} {R : List PS} {Q : Option AV → List PS → Prop} (hx : x = iI (k : Nat)) (ht : TpC b n P1) (hk : k < n) (h : Q (some (vI (iI (sb (b k))))) (P0 :: P1 :: R)) : Tri 100 d [vR 1 0 0, vI x] (P0 :: P1 :: R) Q := by
  subst hx
  have hn := ht.2.1
  refine enX9_byteAt ?_
  unfold fX9_byteAt_0
  rw [ht.1, show (0 : Int32) = iI 0 from rfl, show (1500 : Int32) = iI 1500 from rfl, iI_lt (by omega) (by omega) (by omega) (by omega), iI_le (by omega) (by omega) (by omega) (by omega), iI_le (by omega) (by omega) (by omega) (by omega), iI_cl (a := (k : Nat)) (by omega) (by omega), Int.toNat_natCast, (ht.2.2 k hk).1]
  exact ⟨fun c => absurd c (by omega), fun _ => ⟨fun c => absurd c (by omega), fun _ => ⟨fun c => absurd c (by omega), fun _ => ⟨vpk (by omega) (by omega), h⟩⟩⟩⟩
theorem C_isDigit {d : Nat} {c : Int} {R : List PS} {Q : Option AV → List PS → Prop} (h0 : 0 ≤ c) (h1 : c < 256) (h : Q (some (vI (oI (dig c)))) R) : Tri 108 d [vI (iI (sb c))] R Q := by
  have hb := sb_bd h0 h1
  refine enX9_isDigit ?_
  unfold fX9_isDigit_0
  rw [show (48 : Int32) = iI 48 from rfl, show (57 : Int32) = iI 57 from rfl, iI_lt (by omega) (by omega) (by omega) (by omega), iI_lt (by omega) (by omega) (by omega) (by omega)]
  have no : ¬ (48 ≤ c ∧ c ≤ 57) → Q (some (vI (oI false))) R := fun q => by
    rw [show dig c = false by unfold dig; rw [← Bool.decide_and]; exact decide_eq_false q] at h; exact h
  refine ⟨fun q => ⟨Or.inl rfl, no ?_⟩, fun q => ⟨fun q1 => ⟨Or.inl rfl, no ?_⟩, fun q1 => ⟨Or.inr rfl, ?_⟩⟩⟩
  · unfold sb at q; split at q <;> omega
  · unfold sb at q1; split at q1 <;> omega
  · have : 48 ≤ c ∧ c ≤ 57 := by unfold sb at q q1; split at q <;> omega
    rw [show dig c = true by unfold dig; rw [← Bool.decide_and]; exact decide_eq_true this] at h; exact h
theorem sb59 {c : Int} (h0 : 0 ≤ c) (h1 : c < 256) : sb c = 59 ↔ c = 59 := by unfold sb; split <;> omega
theorem C_readRows {d n w : Nat} {b : Nat → Int} {P0 P1 P2 P3 P4 P5 P6 P7 P8 P9 : PS} {R : List PS} {Q : Option AV → List PS → Prop} (ht : TpC b n P1) (hw : 4 ≤ w ∧ w ≤ 16) (h0 : ∀ i, i < 256 → gA P9 0 0 i = iI 0)
    (hy : ∀ L P9', picS b n w n 0 0 0 (fun _ => 0) = .ok L → (∀ i, i < 256 → gA P9' 0 0 i = iI (L i)) → Fr [] [] [0] [] P9 P9' → Q (some (vI (oI true))) (P0 :: P1 :: P2 :: P3 :: P4 :: P5 :: P6 :: P7 :: P8 :: P9' :: R))
    (hn : ∀ e P1' P9', picS b n w n 0 0 0 (fun _ => 0) = .error e → FaC e P1' → Fr [2, 3] [] [] [] P1 P1' → Fr [] [] [0] [] P9 P9' → Q (some (vI (oI false))) (P0 :: P1' :: P2 :: P3 :: P4 :: P5 :: P6 :: P7 :: P8 :: P9' :: R)) : Tri 51 (d + 1) [vR 9 0 0, vR 1 0 0, vI (iI (w : Nat))] (P0 :: P1 :: P2 :: P3 :: P4 :: P5 :: P6 :: P7 :: P8 :: P9 :: R) Q := by
  have hn15 := ht.2.1
  refine enX4_readRows ?_
  unfold fX4_readRows_0
  have key : ∀ (m k row col : Nat) (L : Nat → Int) (A : PS), k + m = n → row ≤ w → col ≤ w → Fr [] [] [0] [] P9 A → (∀ i, i < 256 → gA A 0 0 i = iI (L i)) → (∀ X, picS b n w m k row col L = X → picS b n w n 0 0 0 (fun _ => 0) = X) → cX4_readRows_8 (0, 0, 0, 0) d (iI (w : Nat)) (iI (row : Nat)) (iI (col : Nat)) (iI (k : Nat)) P0 P1 P2 P3 P4 P5 P6 P7 P8 A R Q := by
    intro m
    induction m with
    | zero =>
      intro k row col L A hk hr hc fA hA hX
      refine gX4_readRows_8 ?_
      unfold fX4_readRows_8
      rw [ht.1, iI_le (by omega) (by omega) (by omega) (by omega), iI_eq (by omega) (by omega) (by omega) (by omega)]
      refine ⟨fun _ => ⟨fun q => ⟨Or.inr rfl, hy L A (hX _ ?_) hA fA⟩, fun q => C_refuse (e := (2, (n : Nat))) rfl rfl (fun P1' fa f1 => ?_)⟩, fun q => absurd (by omega) q⟩
      · unfold picS; rw [if_pos (by omega)]
      · dsimp only [hx10, rI]
        exact ⟨fun _ => ⟨Or.inl rfl, hn _ P1' A (hX _ (by unfold picS; rw [if_neg (by omega)])) fa f1 fA⟩, fun g => absurd rfl g⟩
    | succ m ih =>
      intro k row col L A hk hr hc fA hA hX
      have bk := (ht.2.2 k (by omega)).2
      have hsb := sb_bd bk.1 bk.2
      have ek : iI (k : Nat) + 1 = iI ((k + 1 : Nat)) := iI_add (k : Nat) 1
      refine gX4_readRows_8 ?_
      unfold fX4_readRows_8
      rw [ht.1, iI_le (by omega) (by omega) (by omega) (by omega)]
      refine ⟨fun q => absurd q (by omega), fun _ => C_byteAt' rfl ht (by omega) ?_⟩
      dsimp only [hx10, rI]
      rw [ek]
      refine C_isBlank bk.1 bk.2 (fun hbl => ?_) (fun hbl => ?_)
      · dsimp only [hx10, rI]
        exact ⟨fun q => absurd q (by decide), fun _ => ih (k + 1) row col L A (by omega) hr hc fA hA (fun X hX' => hX X (by unfold picS; rw [if_pos hbl]; exact hX'))⟩
      · dsimp only [hx10, rI]
        refine ⟨fun _ => C_isDigit bk.1 bk.2 ?_, fun q => absurd rfl q⟩
        dsimp only [hx10, rI]
        -- a FAULT
        have bad : ∀ (K : Option AV → List PS → Prop), (∀ P1', FaC (2, (k : Nat)) P1' → Fr [2, 3] [] [] [] P1 P1' → K (some (vI (iI 0))) (P0 :: P1' :: P2 :: P3 :: P4 :: P5 :: P6 :: P7 :: P8 :: A :: R)) → Tri 102 d [vR 1 0 0, vI (2 : Int32), vI (iI (k : Nat))] (P0 :: P1 :: P2 :: P3 :: P4 :: P5 :: P6 :: P7 :: P8 :: A :: R) K := fun K hK => C_refuse (e := (2, (k : Nat))) rfl rfl (fun P1' fa f1 => hK P1' fa f1)
        have fin2 : (b k = 59 ∨ dig (b k) = true) → (row = w ∨ (b k = 59 ∧ col < w) ∨ (b k ≠ 59 ∧ col = w)) → ∀ P1', FaC (2, (k : Nat)) P1' → Fr [2, 3] [] [] [] P1 P1' → Q (some (vI (iI 0))) (P0 :: P1' :: P2 :: P3 :: P4 :: P5 :: P6 :: P7 :: P8 :: A :: R) := fun h1 h2 P1' fa f1 => hn _ P1' A (hX _ (by unfold picS; rw [hbl, if_neg (by decide), if_neg (fun g => g h1), if_pos h2])) fa f1 fA
        have on87 : ∀ (dg : Bool) (cw : Bool), dg = dig (b k) → (cw = true ↔ w ≤ col) → (b k = 59 ∨ dig (b k) = true) → row < w → cX4_readRows_87 (0, 0, 0, 0) d (iI (w : Nat)) (iI (row : Nat)) (iI (col : Nat)) (iI (k : Nat)) (iI (sb (b k))) (oI dg) (oI dg) (oI cw) P0 P1 P2 P3 P4 P5 P6 P7 P8 A R Q := by
          intro dg cw hdg hcw hok hrw
          have d59 : dg = true ↔ b k ≠ 59 := by
            rw [hdg]
            constructor
            · intro g; have := dig_bd g; omega
            · intro g; rcases hok with q | q; exact absurd q g; exact q
          refine gX4_readRows_87 ?_
          unfold fX4_readRows_87
          rw [oI_inj, oI_z, ek]
          have eo : iI (row : Nat) * 16 + iI (col : Nat) = iI ((16 * row + col : Nat)) := by rw [show (16 : Int32) = iI 16 from rfl, iI_mul, iI_add]; refine congrArg iI ?_; omega
          have e16 : (16 : Int32) ≤ iI (col : Nat) ↔ 16 ≤ col := by rw [show (16 : Int32) = iI 16 from rfl, iI_le (by omega) (by omega) (by omega) (by omega)]; omega
          rw [e16, eo, show iI (col : Nat) + 1 = iI ((col + 1 : Nat)) from iI_add (col : Nat) 1, show iI (row : Nat) + 1 = iI ((row + 1 : Nat)) from iI_add (row : Nat) 1, iI_cl (a := ((16 * row + col : Nat) : Int)) (by omega) (by omega), Int.toNat_natCast]
          refine ⟨fun q => ⟨fun q1 => ?_, fun q1 => ?_⟩, fun q => bad _ (fun P1' fa f1 => ?_)⟩
          · have b59 : b k = 59 := by
              by_cases g : b k = 59
              · exact g
              · rw [d59.mpr g] at q1; exact absurd q1 (by decide)
            have cwt : w ≤ col := hcw.mp (by rw [q1] at q; cases cw; exact absurd rfl q; rfl)
            refine ih (k + 1) (row + 1) 0 L A (by omega) (by omega) (by omega) fA hA (fun X hX' => hX X ?_)
            unfold picS; rw [hbl, if_neg (by decide), if_neg (fun g => g hok), if_neg (by omega), if_pos b59]; exact hX'
          · have dt : dg = true := by simpa using q1
            have b59 := d59.mp dt
            have bd := dig_bd (hdg ▸ dt)
            have cwf : ¬ w ≤ col := fun g => q (by rw [dt, hcw.mpr g])
            refine ⟨fun g => absurd g (by omega), fun _ => ⟨vpk (by omega) (by omega), ?_⟩⟩
            rw [show (48 : Int32) = iI 48 from rfl, iI_sub, sb_lt (by omega)]
            refine ih (k + 1) row (col + 1) (upZ L (16 * row + col) (b k - 48)) _ (by omega) hr (by omega) (fA.sA (by simp)) (fun i hi => ?_) (fun X hX' => hX X ?_)
            · rw [gA_sA, if_pos rfl, if_pos rfl]
              unfold upZ
              by_cases ci : i = 16 * row + col
              · rw [if_pos ci, if_pos ci]
              · rw [if_neg ci, if_neg ci]; exact hA i hi
            · unfold picS; rw [hbl, if_neg (by decide), if_neg (fun g => g hok), if_neg (by omega), if_neg b59]; exact hX'
          · dsimp only [hx10, rI]
            refine ⟨Or.inl rfl, fin2 hok ?_ P1' fa f1⟩
            cases hd : dg with
            | true =>
              have := hcw.mp (by rw [← q]; exact hd)
              exact Or.inr (Or.inr ⟨d59.mp hd, by omega⟩)
            | false =>
              have g1 : b k = 59 := by
                by_cases g : b k = 59
                · exact g
                · rw [d59.mpr g] at hd; exact absurd hd (by decide)
              have g2 : ¬ w ≤ col := fun g => by have := hcw.mpr g; rw [← q, hd] at this; exact absurd this (by decide)
              exact Or.inr (Or.inl ⟨g1, by omega⟩)
        have rowc : ∀ (dg : Bool), dg = dig (b k) → (b k = 59 ∨ dig (b k) = true) → ((iI (w : Nat) ≤ iI (row : Nat) → Tri 102 d [vR 1 0 0, vI (2 : Int32), vI (iI (k : Nat))] (P0 :: P1 :: P2 :: P3 :: P4 :: P5 :: P6 :: P7 :: P8 :: A :: R) (fun r5 h5 => hx10 h5 fun P0_5 P1_5 P2_5 P3_5 P4_5 P5_5 P6_5 P7_5 P8_5 P9_5 R_5 => rI r5 fun y5 => (y5 = 0 ∨ y5 = 1) ∧ Q (some (vI y5)) (P0_5 :: P1_5 :: P2_5 :: P3_5 :: P4_5 :: P5_5 :: P6_5 :: P7_5 :: P8_5 :: P9_5 :: R_5))) ∧ (¬ iI (w : Nat) ≤ iI (row : Nat) → ((16 : Int32) ≤ iI (row : Nat) → Tri 102 d [vR 1 0 0, vI (2 : Int32), vI (iI (k : Nat))] (P0 :: P1 :: P2 :: P3 :: P4 :: P5 :: P6 :: P7 :: P8 :: A :: R) (fun r6 h6 => hx10 h6 fun P0_6 P1_6 P2_6 P3_6 P4_6 P5_6 P6_6 P7_6 P8_6 P9_6 R_6 => rI r6 fun y6 => (y6 = 0 ∨ y6 = 1) ∧ Q (some (vI y6)) (P0_6 :: P1_6 :: P2_6 :: P3_6 :: P4_6 :: P5_6 :: P6_6 :: P7_6 :: P8_6 :: P9_6 :: R_6))) ∧ (¬ (16 : Int32) ≤ iI (row : Nat) → (iI (col : Nat) < iI (w : Nat) → cX4_readRows_87 (0, 0, 0, 0) d (iI (w : Nat)) (iI (row : Nat)) (iI (col : Nat)) (iI (k : Nat)) (iI (sb (b k))) (oI dg) (oI dg) (0 : Int32) P0 P1 P2 P3 P4 P5 P6 P7 P8 A R Q) ∧ (¬ iI (col : Nat) < iI (w : Nat) → cX4_readRows_87 (0, 0, 0, 0) d (iI (w : Nat)) (iI (row : Nat)) (iI (col : Nat)) (iI (k : Nat)) (iI (sb (b k))) (oI dg) (oI dg) (1 : Int32) P0 P1 P2 P3 P4 P5 P6 P7 P8 A R Q)))) := by
          intro dg hdg hok
          rw [iI_le (by omega) (by omega) (by omega) (by omega), iI_lt (by omega) (by omega) (by omega) (by omega)]
          have e16 : ¬ (w : Int) ≤ (row : Nat) → ¬ (16 : Int32) ≤ iI (row : Nat) := fun g => by rw [show (16 : Int32) = iI 16 from rfl, iI_le (by omega) (by omega) (by omega) (by omega)]; omega
          refine ⟨fun q => bad _ (fun P1' fa f1 => ?_), fun q => ⟨fun q1 => absurd q1 (e16 q), fun _ => ⟨fun q2 => on87 dg false hdg ⟨fun g => absurd g (by decide), fun g => by omega⟩ hok (by omega), fun q2 => on87 dg true hdg ⟨fun _ => by omega, fun _ => rfl⟩ hok (by omega)⟩⟩⟩
          dsimp only [hx10, rI]
          exact ⟨Or.inl rfl, fin2 hok (Or.inl (by omega)) P1' fa f1⟩
        rw [oI_z]
        refine ⟨fun q => rowc _ rfl (Or.inr (by simpa using q)), fun q => ⟨fun q1 => rowc _ rfl (Or.inl ?_), fun q1 => C_refuse (e := (1, (k : Nat))) rfl rfl (fun P1' fa f1 => ?_)⟩⟩
        · rw [show (59 : Int32) = iI 59 from rfl, iI_eq (by omega) (by omega) (by omega) (by omega)] at q1
          exact (sb59 bk.1 bk.2).mp q1
        · dsimp only [hx10, rI]
          have n59 : ¬ b k = 59 := fun g => q1 (by rw [show (59 : Int32) = iI 59 from rfl, iI_eq (by omega) (by omega) (by omega) (by omega)]; exact (sb59 bk.1 bk.2).mpr g)
          refine ⟨Or.inl rfl, hn _ P1' A (hX _ ?_) fa f1 fA⟩
          unfold picS; rw [hbl, if_neg (by decide), if_pos (fun g => by rcases g with g | g; exact n59 g; rw [q] at g; exact absurd g (by decide))]
  exact key n 0 0 0 (fun _ => 0) P9 (by omega) (by omega) (by omega) Fr.rf (fun i hi => by rw [h0 i hi]) (fun X hX => hX)
/-! Arrays.fill on the reader's lights -/
def cFl (z : Nat × Nat × Nat × Nat) (d : Nat) (v x : Int32) (P0 P1 P2 P3 P4 P5 P6 P7 P8 P9 : PS) (R : List PS) (Q : Option AV → List PS → Prop) : Prop := Go mJ7_fill_53178 z d 5 [(0, vR 9 0 1), (1, vI v), (2, vI x), (3, vI (256 : Int32))] [] (P0 :: P1 :: P2 :: P3 :: P4 :: P5 :: P6 :: P7 :: P8 :: P9 :: R) Q
def fFl (z : Nat × Nat × Nat × Nat) (d : Nat) (v x : Int32) (P0 P1 P2 P3 P4 P5 P6 P7 P8 P9 : PS) (R : List PS) (Q : Option AV → List PS → Prop) : Prop := ((256 : Int32) ≤ x → Q none (P0 :: P1 :: P2 :: P3 :: P4 :: P5 :: P6 :: P7 :: P8 :: P9 :: R)) ∧ (¬ (256 : Int32) ≤ x → vp_in x 256 ∧ cFl z d v (x + (1 : Int32)) P0 P1 P2 P3 P4 P5 P6 P7 P8 (sA P9 0 0 (x.toNatClampNeg) v) R Q)
set_option maxRecDepth 100000 in
theorem gFl {z : Nat × Nat × Nat × Nat} {d : Nat} {v x : Int32} {P0 P1 P2 P3 P4 P5 P6 P7 P8 P9 : PS} {R : List PS} {Q : Option AV → List PS → Prop} (h : fFl z d v x P0 P1 P2 P3 P4 P5 P6 P7 P8 P9 R Q) : cFl z d v x P0 P1 P2 P3 P4 P5 P6 P7 P8 P9 R Q := Go.run (p := 10) (cuts := [(5, [0, 1, 2, 3])]) okJ7_fill_53178 21 h
set_option maxRecDepth 100000 in
theorem enFl {d : Nat} {v : Int32} {P0 P1 P2 P3 P4 P5 P6 P7 P8 P9 : PS} {R : List PS} {Q : Option AV → List PS → Prop} (h : cFl (0, 0, 0, 0) d v (0 : Int32) P0 P1 P2 P3 P4 P5 P6 P7 P8 P9 R Q) : Tri 302 d [vR 9 0 1, vI v] (P0 :: P1 :: P2 :: P3 :: P4 :: P5 :: P6 :: P7 :: P8 :: P9 :: R) Q := Tri_of (by decide +kernel) rfl (Go.run (p := 10) (cuts := [(5, [0, 1, 2, 3])]) okJ7_fill_53178 21 h)
theorem C_fillL {d : Nat} {v : Int32} {P0 P1 P2 P3 P4 P5 P6 P7 P8 P9 : PS} {R : List PS} {Q : Option AV → List PS → Prop} (h : ∀ P', (∀ i, i < 256 → gA P' 0 0 i = v) → Fr [] [] [0] [] P9 P' → Q none (P0 :: P1 :: P2 :: P3 :: P4 :: P5 :: P6 :: P7 :: P8 :: P' :: R)) : Tri 302 d [vR 9 0 1, vI v] (P0 :: P1 :: P2 :: P3 :: P4 :: P5 :: P6 :: P7 :: P8 :: P9 :: R) Q := by
  refine enFl ?_
  have key : ∀ m k : Nat, ∀ P : PS, k + m = 256 → (∀ i, i < k → gA P 0 0 i = v) → Fr [] [] [0] [] P9 P → cFl (0, 0, 0, 0) d v (iI (k : Nat)) P0 P1 P2 P3 P4 P5 P6 P7 P8 P R Q := by
    intro m
    induction m with
    | zero =>
      intro k P hk h1 h2
      refine gFl ?_
      unfold fFl
      rw [show (256 : Int32) = iI 256 from rfl, iI_le (by omega) (by omega) (by omega) (by omega)]
      exact ⟨fun _ => h P (fun i hi => h1 i (by omega)) h2, fun c => absurd (by omega) c⟩
    | succ m ih =>
      intro k P hk h1 h2
      refine gFl ?_
      unfold fFl
      rw [show (256 : Int32) = iI 256 from rfl, iI_le (by omega) (by omega) (by omega) (by omega), iI_cl (a := (k : Nat)) (by omega) (by omega), Int.toNat_natCast, show iI (k : Nat) + 1 = iI ((k + 1 : Nat)) from iI_add (k : Nat) 1]
      refine ⟨fun c => absurd c (by omega), fun _ => ⟨vpk (by omega) (by omega), ih (k + 1) _ (by omega) (fun i hi => ?_) (h2.sA (by simp))⟩⟩
      rw [gA_sA, if_pos rfl, if_pos rfl]
      by_cases c : i = k
      · rw [if_pos c]
      · rw [if_neg c]; exact h1 i (by omega)
  exact key 256 0 P9 (by omega) (fun i hi => absurd hi (Nat.not_lt_zero i)) Fr.rf
