/-! ===== RULES: the class reads an expression ===== -/
def cw (a : NT) : Int := if a.1 = 0 then a.2 else if a.1 ≤ 8 then -a.1 else if a.1 = 20 then -11 else if a.1 = 21 then -12 else if a.1 = 22 then -13 else if a.1 = 23 then -16 else if a.1 = 24 then -14 else if a.1 = 25 then -15 else if a.1 = 26 then -17 else -18
def RuC (j u : Nat) (out : List NT) (P : PS) : Prop := gI P j 5 = iI (u : Nat) ∧ gI P j 6 = iI (out.length : Nat) ∧ ∀ i, i < out.length → gA P j 0 i = iI (cw (out.getD i (0, 0)))
def frR (j : Nat) (P P' : PS) : Prop := FrJ j P P' ∧ gI P' j 4 = gI P j 4 ∧ (∀ i, gA P' j 1 i = gA P j 1 i) ∧ ∀ i, gA P' j 2 i = gA P j 2 i
theorem frR.rf {j : Nat} {P : PS} : frR j P P := ⟨FrJ.rf, rfl, fun _ => rfl, fun _ => rfl⟩
theorem frR.tr {j : Nat} {P P' P'' : PS} (h : frR j P P') (h' : frR j P' P'') : frR j P P'' := ⟨h.1.tr h'.1, h'.2.1.trans h.2.1, fun i => (h'.2.2.1 i).trans (h.2.2.1 i), fun i => (h'.2.2.2 i).trans (h.2.2.2 i)⟩
theorem getD_app_l {C D : List NT} {i : Nat} (h : i < C.length) : (C ++ D).getD i (0, 0) = C.getD i (0, 0) := by
  rw [List.getD_eq_getElem?_getD, List.getD_eq_getElem?_getD, List.getElem?_append_left h]
theorem getD_app_r {C : List NT} {a : NT} : (C ++ [a]).getD C.length (0, 0) = a := by
  rw [List.getD_eq_getElem?_getD, List.getElem?_append_right (Nat.le_refl _), Nat.sub_self]; rfl
theorem C_emit {d j u : Nat} {out : List NT} {a : NT} {x : Int32} {P0 P1 P2 P3 P4 : PS} {R : List PS} {Q : Option AV → List PS → Prop} (hx : x = iI (cw a)) (hR : RuC j u out P4) (hl : out.length < 400) (h : ∀ P4', RuC j u (out ++ [a]) P4' → frR j P4 P4' → Q none (P0 :: P1 :: P2 :: P3 :: P4' :: R)) : Tri 56 d [vR 4 j 0, vI x] (P0 :: P1 :: P2 :: P3 :: P4 :: R) Q := by
  subst hx
  refine enX5_emit ?_
  unfold fX5_emit_0
  rw [show gI P4 j 6 = _ from hR.2.1, show (400 : Int32) = iI 400 from rfl, iI_le (by omega) (by omega) (by omega) (by omega), iI_cl (a := (out.length : Nat)) (by omega) (by omega), Int.toNat_natCast, show iI (out.length : Nat) + 1 = iI ((out.length + 1 : Nat)) from iI_add _ 1]
  refine ⟨fun c => absurd c (by omega), fun _ => ⟨vpk (by omega) (by omega), h _ ⟨?_, ?_, fun i hi => ?_⟩ ⟨FrJ.rf.sA.sI, ?_, fun i => ?_, fun i => ?_⟩⟩⟩
  · rw [gI_sI, if_neg (by decide)]; exact hR.1
  · rw [gI_sI, if_pos rfl, if_pos rfl, List.length_append]; rfl
  · rw [List.length_append, List.length_singleton] at hi
    show gA (sA P4 j 0 out.length (iI (cw a))) j 0 i = _
    rw [gA_sA, if_pos rfl, if_pos rfl]
    by_cases c : i = out.length
    · rw [if_pos c, c, getD_app_r]
    · rw [if_neg c, getD_app_l (by omega)]; exact hR.2.2 i (by omega)
  · rw [gI_sI, if_neg (by decide)]; rfl
  · show gA (sA P4 j 0 out.length (iI (cw a))) j _ i = _
    rw [gA_sA, if_neg (by decide)]
  · show gA (sA P4 j 0 out.length (iI (cw a))) j _ i = _
    rw [gA_sA, if_neg (by decide)]
theorem isW_i {t : TK} {i : Nat} (h1 : t.1 = 1) (hi : i < 27) (w : List Int) (hw : OWN.getD i [] = w) : isW t w ↔ wid t.2.2.2.2 = i := by
  rw [wid_iff hi, hw]
  exact ⟨fun g => g.2, fun g => ⟨h1, g⟩⟩
theorem knw_w {t : TK} (h1 : t.1 = 1) : knw t = if wid t.2.2.2.2 = 2 then 8 else if 17 ≤ wid t.2.2.2.2 ∧ wid t.2.2.2.2 ≤ 23 then wid t.2.2.2.2 - 16 else -1 := by
  unfold knw
  have e := fun (i : Nat) (hi : i < 27) (w : List Int) (hw : OWN.getD i [] = w) => isW_i (t := t) h1 hi w hw
  have e1 := e 17 (by omega) w_dots rfl
  have e2 := e 18 (by omega) w_named rfl
  have e3 := e 19 (by omega) w_namings rfl
  have e4 := e 20 (by omega) w_specks rfl
  have e5 := e 21 (by omega) w_smears rfl
  have e6 := e 22 (by omega) w_told rfl
  have e7 := e 23 (by omega) w_stretch rfl
  have e8 := e 2 (by omega) w_light rfl
  generalize wid t.2.2.2.2 = v at *
  split
  · rename_i c; have := e1.mp c; rw [if_neg (by omega), if_pos (by omega)]; omega
  rename_i d1
  split
  · rename_i c; have := e2.mp c; rw [if_neg (by omega), if_pos (by omega)]; omega
  rename_i d2
  split
  · rename_i c; have := e3.mp c; rw [if_neg (by omega), if_pos (by omega)]; omega
  rename_i d3
  split
  · rename_i c; have := e4.mp c; rw [if_neg (by omega), if_pos (by omega)]; omega
  rename_i d4
  split
  · rename_i c; have := e5.mp c; rw [if_neg (by omega), if_pos (by omega)]; omega
  rename_i d5
  split
  · rename_i c; have := e6.mp c; rw [if_neg (by omega), if_pos (by omega)]; omega
  rename_i d6
  split
  · rename_i c; have := e7.mp c; rw [if_neg (by omega), if_pos (by omega)]; omega
  rename_i d7
  split
  · rename_i c; have := e8.mp c; rw [if_pos (by omega)]
  rename_i d8
  have f1 : ¬ v = 17 := fun g => d1 (e1.mpr g)
  have f2 : ¬ v = 18 := fun g => d2 (e2.mpr g)
  have f3 : ¬ v = 19 := fun g => d3 (e3.mpr g)
  have f4 : ¬ v = 20 := fun g => d4 (e4.mpr g)
  have f5 : ¬ v = 21 := fun g => d5 (e5.mpr g)
  have f6 : ¬ v = 22 := fun g => d6 (e6.mpr g)
  have f7 : ¬ v = 23 := fun g => d7 (e7.mpr g)
  have f8 : ¬ v = 2 := fun g => d8 (e8.mpr g)
  rw [if_neg (by omega), if_neg (by omega)]
theorem knw_n {t : TK} (h1 : t.1 ≠ 1) : knw t = -1 := by
  have := knw_c t
  rcases this.2.1 with g | g
  · exact g
  · exact absurd (this.2.2 (by omega)) h1
theorem C_quantityAt {d : Nat} {b : Nat → Int} {n q : Nat} {P0 P1 : PS} {R : List PS} {Q : Option AV → List PS → Prop} (hq : q ≤ n) (hk : TkC (tok true b n q) P1) (h : Q (some (vI (iI (if knw (tkq b n q) < 0 then -1 else knw (tkq b n q) - 1)))) (P0 :: P1 :: R)) : Tri 73 d [vR 1 0 0] (P0 :: P1 :: R) Q := by
  have kk := hk.k hq
  refine enX6_quantityAt ?_
  unfold fX6_quantityAt_0
  rw [kk.1]
  refine ⟨fun c => ?_, fun c => ?_⟩
  · have v := (hk.2.2.2.1 c).1
    have wb := wid_bd (tok true b n q).2.2.2.2
    have kw : knw (tkq b n q) = if wid (tok true b n q).2.2.2.2 = 2 then 8 else if 17 ≤ wid (tok true b n q).2.2.2.2 ∧ wid (tok true b n q).2.2.2.2 ≤ 23 then wid (tok true b n q).2.2.2.2 - 16 else -1 := knw_w c
    generalize wid (tok true b n q).2.2.2.2 = x at *
    generalize knw (tkq b n q) = kn at *
    rw [show gI P1 0 6 = _ from v]
    simp (disch := omega) only [show (2 : Int32) = iI 2 from rfl, show (17 : Int32) = iI 17 from rfl, show (23 : Int32) = iI 23 from rfl, iI_eq, iI_lt, iI_sub]
    refine ⟨fun c2 => ⟨fun c3 => ?_, fun c3 => ⟨fun c4 => ?_, fun c4 => ?_⟩⟩, fun c2 => ?_⟩
    · rw [if_neg c2, if_neg (by omega)] at kw; rw [kw] at h; exact h
    · rw [if_neg c2, if_neg (by omega)] at kw; rw [kw] at h; exact h
    · rw [if_neg c2, if_pos (by omega)] at kw
      rw [kw, if_neg (by omega), show x - 16 - 1 = x - 17 by omega] at h; exact h
    · rw [if_pos c2] at kw; rw [kw] at h; exact h
  · rw [knw_n c] at h; exact h
theorem opc_20 {t : TK} : opc t = 20 ↔ isW t w_or := by
  constructor
  · intro h
    unfold opc at h
    split at h; omega
    split at h; omega
    split at h; omega
    split at h; omega
    split at h; omega
    split at h; omega
    split at h
    · rename_i c; exact c
    · omega
  · intro h
    unfold opc
    rw [if_neg (fun g => isC_W g h), if_neg (fun g => isC_W g h), if_neg (fun g => isC_W g h), if_neg (fun g => isC_W g h), if_neg (fun g => isC_W g h), if_neg (fun g => absurd (g.2.symm.trans h.2) (by decide)), if_pos h]
theorem opc_21 {t : TK} : opc t = 21 ↔ isW t w_and := by
  constructor
  · intro h
    unfold opc at h
    split at h; omega
    split at h; omega
    split at h; omega
    split at h; omega
    split at h; omega
    split at h
    · rename_i c; exact c
    split at h <;> omega
  · intro h
    unfold opc
    rw [if_neg (fun g => isC_W g h), if_neg (fun g => isC_W g h), if_neg (fun g => isC_W g h), if_neg (fun g => isC_W g h), if_neg (fun g => isC_W g h), if_pos h]
theorem opc_s {t : TK} : (opc t = 26 ↔ isC t 43) ∧ (opc t = 27 ↔ isC t 45) ∧ (opc t = 23 ↔ isC t 61) ∧ (opc t = 24 ↔ isC t 60) ∧ (opc t = 25 ↔ isC t 62) := by
  unfold opc
  split
  · rename_i c
    exact ⟨⟨fun _ => c, fun _ => rfl⟩, ⟨fun h => by omega, fun h => absurd c (isC_ne h (by decide))⟩, ⟨fun h => by omega, fun h => absurd c (isC_ne h (by decide))⟩, ⟨fun h => by omega, fun h => absurd c (isC_ne h (by decide))⟩, ⟨fun h => by omega, fun h => absurd c (isC_ne h (by decide))⟩⟩
  rename_i c1
  split
  · rename_i c
    exact ⟨⟨fun h => by omega, fun h => absurd h c1⟩, ⟨fun _ => c, fun _ => rfl⟩, ⟨fun h => by omega, fun h => absurd c (isC_ne h (by decide))⟩, ⟨fun h => by omega, fun h => absurd c (isC_ne h (by decide))⟩, ⟨fun h => by omega, fun h => absurd c (isC_ne h (by decide))⟩⟩
  rename_i c2
  split
  · rename_i c
    exact ⟨⟨fun h => by omega, fun h => absurd h c1⟩, ⟨fun h => by omega, fun h => absurd h c2⟩, ⟨fun _ => c, fun _ => rfl⟩, ⟨fun h => by omega, fun h => absurd c (isC_ne h (by decide))⟩, ⟨fun h => by omega, fun h => absurd c (isC_ne h (by decide))⟩⟩
  rename_i c3
  split
  · rename_i c
    exact ⟨⟨fun h => by omega, fun h => absurd h c1⟩, ⟨fun h => by omega, fun h => absurd h c2⟩, ⟨fun h => by omega, fun h => absurd h c3⟩, ⟨fun _ => c, fun _ => rfl⟩, ⟨fun h => by omega, fun h => absurd c (isC_ne h (by decide))⟩⟩
  rename_i c4
  split
  · rename_i c
    exact ⟨⟨fun h => by omega, fun h => absurd h c1⟩, ⟨fun h => by omega, fun h => absurd h c2⟩, ⟨fun h => by omega, fun h => absurd h c3⟩, ⟨fun h => by omega, fun h => absurd h c4⟩, ⟨fun _ => c, fun _ => rfl⟩⟩
  rename_i c5
  have r : ∀ k : Int, 22 ≤ k → ¬ ((if isW t w_and then (21 : Int) else if isW t w_or then 20 else -1) = k) := fun k hk => by split; omega; split <;> omega
  exact ⟨⟨fun h => absurd h (r 26 (by omega)), fun h => absurd h c1⟩, ⟨fun h => absurd h (r 27 (by omega)), fun h => absurd h c2⟩, ⟨fun h => absurd h (r 23 (by omega)), fun h => absurd h c3⟩, ⟨fun h => absurd h (r 24 (by omega)), fun h => absurd h c4⟩, ⟨fun h => absurd h (r 25 (by omega)), fun h => absurd h c5⟩⟩
theorem C_comparisonAt {d : Nat} {b : Nat → Int} {n q : Nat} {P0 P1 : PS} {R : List PS} {Q : Option AV → List PS → Prop} (hq : q ≤ n) (hk : TkC (tok true b n q) P1) (hy : rk (opc (tkq b n q)) = 23 → Q (some (vI (iI (cw (opc (tkq b n q), 0))))) (P0 :: P1 :: R)) (hn : rk (opc (tkq b n q)) ≠ 23 → Q (some (vI 0)) (P0 :: P1 :: R)) : Tri 70 (d + 1) [vR 1 0 0] (P0 :: P1 :: R) Q := by
  have os := opc_s (t := tkq b n q)
  refine enX6_comparisonAt ?_
  unfold fX6_comparisonAt_0
  refine C_isAtSign (s := 60) (by omega) (by omega) rfl hq hk (fun a1 a2 => ?_) (fun a => ?_)
  · dsimp only [hx2, rI]
    have o := os.2.2.2.1.mpr ⟨a1, a2⟩
    have := hy (by rw [o]; rfl)
    rw [o] at this
    exact ⟨fun g => absurd g (by decide), fun _ => this⟩
  · dsimp only [hx2, rI]
    refine ⟨fun _ => ?_, fun g => absurd rfl g⟩
    refine C_isAtSign (s := 62) (by omega) (by omega) rfl hq hk (fun a1 a2 => ?_) (fun a' => ?_)
    · dsimp only [hx2, rI]
      have o := os.2.2.2.2.mpr ⟨a1, a2⟩
      have := hy (by rw [o]; rfl)
      rw [o] at this
      exact ⟨fun g => absurd g (by decide), fun _ => this⟩
    · dsimp only [hx2, rI]
      refine ⟨fun _ => ?_, fun g => absurd rfl g⟩
      refine C_isAtSign (s := 61) (by omega) (by omega) rfl hq hk (fun a1 a2 => ?_) (fun a'' => ?_)
      · dsimp only [hx2, rI]
        have o := os.2.2.1.mpr ⟨a1, a2⟩
        have := hy (by rw [o]; rfl)
        rw [o] at this
        exact ⟨fun g => absurd g (by decide), fun _ => this⟩
      · dsimp only [hx2, rI]
        refine ⟨fun _ => hn (fun g => ?_), fun g => absurd rfl g⟩
        rcases rk_23.mp g with g | g | g
        · exact a'' (os.2.2.1.mp g)
        · exact a (os.2.2.2.1.mp g)
        · exact a' (os.2.2.2.2.mp g)
