/-! ===== the Model: lookAt ===== -/
theorem hrB_s (L : Nat → Int) (z : Int) (o n : Nat) : hrB L z o (n + 1) = (hrB L z o n || decide (pxl (dt L z n) = o)) := by
  unfold hrB
  have e : cnt (fun d => decide (pxl (dt L z d) = o)) (n + 1) = cnt (fun d => decide (pxl (dt L z d) = o)) n + (if decide (pxl (dt L z n) = o) = true then 1 else 0) := rfl
  rw [e]
  by_cases c : pxl (dt L z n) = o
  · rw [decide_eq_true c]; simp
  · rw [decide_eq_false c]; simp
theorem M_la89 {d p q w : Nat} {y : SY} {z t : Int} {xk : Int32} {mx : Int32} {PB : PS} {R : List PS} {Q : Option AV → List PS → Prop} (hS : StM y w z t PB) (hqc : q < y.1) (hD : DsM (y.2.1 q) z PB) (hh : ∀ o, o < 256 → gA PB 0 41 o = 0)
    (h : ∀ P, Fr [] [] [41] [] PB P → (∀ o, o < 256 → gA P 0 41 o = oI (hrB (y.2.1 q) z o (nD (y.2.1 q) z))) → cX12_lookAt_119 (0, 0, 0, 0) (d + 2) (iI (p : Nat)) xk mx (iI (q : Nat)) 0 P R Q) : cX12_lookAt_89 (0, 0, 0, 0) (d + 2) (iI (p : Nat)) xk mx (iI (q : Nat)) 0 PB R Q := by
  have hK := (hS.2.2.2.2.2 q hqc).2.1
  have h12 := (nD_le (y.2.1 q) z).1
  have key : ∀ (m e : Nat) (P : PS), e + m = nD (y.2.1 q) z → Fr [] [] [41] [] PB P → (∀ o, o < 256 → gA P 0 41 o = oI (hrB (y.2.1 q) z o e)) → cX12_lookAt_89 (0, 0, 0, 0) (d + 2) (iI (p : Nat)) xk mx (iI (q : Nat)) (iI (e : Nat)) P R Q := by
    intro m
    induction m with
    | zero =>
      intro e P he fP hP
      have dm : gI P 0 39 = iI (nD (y.2.1 q) z : Nat) := by rw [fP.2.1 _ (by simp)]; exact hD.1
      refine gX12_lookAt_89 ?_
      unfold fX12_lookAt_89
      rw [dm, iI_le (by omega) (by omega) (by omega) (by omega)]
      have ee : e = nD (y.2.1 q) z := by omega
      exact ⟨fun _ => h P fP (fun o ho => by rw [hP o ho, ee]), fun c => absurd (by omega) c⟩
    | succ m ih =>
      intro e P he fP hP
      have dm : gI P 0 39 = iI (nD (y.2.1 q) z : Nat) := by rw [fP.2.1 _ (by simp)]; exact hD.1
      have DP : DsM (y.2.1 q) z P := ⟨dm, fun i hi => by
        have := hD.2.1 i hi
        unfold DtM at this ⊢
        rw [fP.2.2.2.1 _ _ (by simp), fP.2.2.2.1 _ _ (by simp), fP.2.2.2.1 _ _ (by simp), fP.2.2.2.1 _ _ (by simp), fP.2.2.2.1 _ _ (by simp)]; exact this, fun i hi => by rw [fP.2.2.2.1 _ _ (by simp)]; exact hD.2.2 i hi⟩
      have b := dt_ok hK.2.2.2.1 hK.2.2.1.1 (show e < nD (y.2.1 q) z by omega)
      have pb := pxl_lt (t := dt (y.2.1 q) z e) (by omega) (by omega)
      refine gX12_lookAt_89 ?_
      unfold fX12_lookAt_89
      rw [dm, iI_le (by omega) (by omega) (by omega) (by omega)]
      refine ⟨fun c => absurd c (by omega), fun _ => M_pixelOf rfl DP hK.2.2.2.1 hK.2.2.1.1 (by omega) ?_⟩
      dsimp only [hx1, rI]
      rw [iI_cl (a := (pxl (dt (y.2.1 q) z e) : Nat)) (by omega) (by omega), Int.toNat_natCast, show iI (e : Nat) + 1 = iI ((e + 1 : Nat)) from iI_add (e : Nat) 1]
      refine ⟨vpk pb.1 (by omega), Or.inr rfl, ih (e + 1) _ (by omega) (fP.sA (by simp)) (fun o ho => ?_)⟩
      rw [gA_sA, if_pos rfl, if_pos rfl, hrB_s]
      by_cases c : o = pxl (dt (y.2.1 q) z e)
      · rw [if_pos c, decide_eq_true c.symm, Bool.or_true]; rfl
      · rw [if_neg c, decide_eq_false (fun e => c e.symm), Bool.or_false]; exact hP o ho
  refine key (nD (y.2.1 q) z) 0 PB (by omega) Fr.rf (fun o ho => ?_)
  rw [hh o ho]; rfl
theorem M_la64 {d p q : Nat} {xk : Int32} {mx : Int32} {PB : PS} {R : List PS} {Q : Option AV → List PS → Prop} (h : ∀ P, Fr [] [] [41] [] PB P → (∀ o, o < 256 → gA P 0 41 o = 0) → cX12_lookAt_89 (0, 0, 0, 0) d (iI (p : Nat)) xk mx (iI (q : Nat)) 0 P R Q) : cX12_lookAt_64 (0, 0, 0, 0) d (iI (p : Nat)) xk mx (iI (q : Nat)) 0 PB R Q := by
  have key : ∀ (m o : Nat) (P : PS), o + m = 256 → Fr [] [] [41] [] PB P → (∀ i, i < o → gA P 0 41 i = 0) → cX12_lookAt_64 (0, 0, 0, 0) d (iI (p : Nat)) xk mx (iI (q : Nat)) (iI (o : Nat)) P R Q := by
    intro m
    induction m with
    | zero =>
      intro o P ho fP hP
      refine gX12_lookAt_64 ?_
      unfold fX12_lookAt_64
      rw [show (256 : Int32) = iI 256 from rfl, iI_le (by omega) (by omega) (by omega) (by omega)]
      exact ⟨fun _ => h P fP (fun i hi => hP i (by omega)), fun c => absurd (by omega) c⟩
    | succ m ih =>
      intro o P ho fP hP
      refine gX12_lookAt_64 ?_
      unfold fX12_lookAt_64
      rw [show (256 : Int32) = iI 256 from rfl, iI_le (by omega) (by omega) (by omega) (by omega), iI_cl (a := (o : Nat)) (by omega) (by omega), Int.toNat_natCast, show iI (o : Nat) + 1 = iI ((o + 1 : Nat)) from iI_add (o : Nat) 1]
      refine ⟨fun c => absurd c (by omega), fun _ => ⟨vpk (by omega) (by omega), Or.inl rfl, ih (o + 1) _ (by omega) (fP.sA (by simp)) (fun i hi => ?_)⟩⟩
      rw [gA_sA, if_pos rfl, if_pos rfl]
      by_cases c : i = o
      · rw [if_pos c]
      · rw [if_neg c]; exact hP i (by omega)
  exact key 256 0 PB (by omega) Fr.rf (fun i hi => absurd hi (Nat.not_lt_zero i))
theorem M_lookAt {d p w : Nat} {y : SY} {z t k : Int} {x v : Int32} {P : PS} {R : List PS} {Q : Option AV → List PS → Prop} (hx : x = iI (p : Nat)) (hv : v = iI k) (hk : -2147483648 ≤ k ∧ k < 2147483648) (hS : StM y w z t P) (hp : p < y.1) (h : ∀ P', LaM y z k p P' → Fr laI [] laA [] P P' → Q none (P' :: R)) : Tri 207 (d + 3) [vR 0 0 0, vI x, vI v] (P :: R) Q := by
  subst hx hv
  have hc := hS.2.1
  refine enX12_lookAt ?_
  unfold fX12_lookAt_0
  have stp : ∀ {A : PS}, Fr laI [] laA [] P A → StM y w z t A := fun f => hS.fr f (by simp) (by simp) (by simp) (by simp) (by simp) (by simp) (by simp)
  have pics : ∀ (m q : Nat) (A : PS), q + m = y.1 → Fr laI [] laA [] P A → (∀ o, o < 256 → gA A 0 40 o = iI (sen y z k o q : Nat)) → cX12_lookAt_30 (0, 0, 0, 0) (d + 2) (iI (p : Nat)) (iI k) (iI (mny y k q : Nat)) (iI (q : Nat)) A R Q := by
    intro m
    induction m with
    | zero =>
      intro q A hq fA sA'
      have SA := stp fA
      have eq : q = y.1 := by omega
      subst eq
      have gp := SA.2.2.2.2.2 p hp
      refine gX12_lookAt_30 ?_
      unfold fX12_lookAt_30
      rw [SA.1, iI_le (by omega) (by omega) (by omega) (by omega)]
      refine ⟨fun _ => M_findDots rfl gp.2.1 gp.1 (fun A' dA fA' => ?_), fun c => absurd (by omega) c⟩
      dsimp only [hx1, rV]
      have F1 : Fr laI [] laA [] P A' := fA.trs (fA'.mono (by simp) (by simp) (by simp) (by simp))
      have F2 : Fr laI [] laA [] P (sI A' 0 43 0) := F1.sI (by simp)
      refine M_la177 (stp F2) hp dA (fun o ho => ?_) (fun B lB fB => h B lB (F2.trs (fB.mono (by simp) (by simp) (by simp) (by simp)))) (nD (y.2.1 p) z) 0 _ (by omega) Fr.rf rfl (fun q hq => absurd hq (Nat.not_lt_zero q)) (fun i hi => absurd hi (Nat.not_lt_zero i))
      show gA A' 0 40 o = _
      rw [fA'.2.2.2.1 _ _ (by simp)]; exact sA' o ho
    | succ m ih =>
      intro q A hq fA sA'
      have SA := stp fA
      have gq := SA.2.2.2.2.2 q (by omega)
      have cq : cntS y (q : Nat) k = ctB y q k := by unfold cntS; rw [decide_eq_true (by omega), Bool.true_and, Int.toNat_natCast]
      refine gX12_lookAt_30 ?_
      unfold fX12_lookAt_30
      rw [SA.1, iI_le (by omega) (by omega) (by omega) (by omega)]
      refine ⟨fun c => absurd c (by omega), fun _ => M_counts rfl rfl (by omega) hk SA ?_⟩
      dsimp only [hx1, rI]
      rw [cq, oI_z]
      refine ⟨fun c => M_findDots rfl gq.2.1 gq.1 (fun A' dA fA' => ?_), fun c => ?_⟩
      · dsimp only [hx1, rV]
        have ct : ctB y q k = true := by simpa using c
        have em : iI (mny y k q : Nat) + 1 = iI (mny y k (q + 1) : Nat) := by
          have : mny y k (q + 1) = mny y k q + (if ctB y q k = true then 1 else 0) := rfl
          rw [this, ct]; exact iI_add _ 1
        rw [em]
        have F1 : Fr laI [] laA [] P A' := fA.trs (fA'.mono (by simp) (by simp) (by simp) (by simp))
        refine M_la64 (fun B fB hB => ?_)
        have F2 : Fr laI [] laA [] P B := F1.trs (fB.mono (by simp) (by simp) (by simp) (by simp))
        have DB : DsM (y.2.1 q) z B := ⟨by rw [fB.2.1 _ (by simp)]; exact dA.1, fun i hi => by
          have := dA.2.1 i hi
          unfold DtM at this ⊢
          rw [fB.2.2.2.1 _ _ (by simp), fB.2.2.2.1 _ _ (by simp), fB.2.2.2.1 _ _ (by simp), fB.2.2.2.1 _ _ (by simp), fB.2.2.2.1 _ _ (by simp)]; exact this, fun i hi => by rw [fB.2.2.2.1 _ _ (by simp)]; exact dA.2.2 i hi⟩
        refine M_la89 (stp F2) (by omega) DB hB (fun C fC hC => ?_)
        have F3 : Fr laI [] laA [] P C := F2.trs (fC.mono (by simp) (by simp) (by simp) (by simp))
        refine M_la119 ct hC (fun o ho => ?_) (fun D fD hD => ih (q + 1) D (by omega) (F3.trs (fD.mono (by simp) (by simp) (by simp) (by simp))) hD)
        rw [fC.2.2.2.1 _ _ (by simp), fB.2.2.2.1 _ _ (by simp), fA'.2.2.2.1 _ _ (by simp)]; exact sA' o ho
      · rw [show iI (q : Nat) + 1 = iI ((q + 1 : Nat)) from iI_add (q : Nat) 1]
        have em : mny y k (q + 1) = mny y k q := by
          show mny y k q + (if ctB y q k = true then 1 else 0) = _
          rw [c]; simp
        have := ih (q + 1) A (by omega) fA (fun o ho => by
          rw [sA' o ho]
          have : sen y z k o (q + 1) = sen y z k o q := by
            show sen y z k o q + (if (ctB y q k && hrB (y.2.1 q) z o (nD (y.2.1 q) z)) = true then 1 else 0) = _
            rw [c, Bool.false_and]; simp
          rw [this])
        rw [em] at this
        exact this
  have clr : ∀ (m o : Nat) (A : PS), o + m = 256 → Fr laI [] laA [] P A → (∀ i, i < o → gA A 0 40 i = 0) → cX12_lookAt_5 (0, 0, 0, 0) (d + 2) (iI (p : Nat)) (iI k) 0 (iI (o : Nat)) A R Q := by
    intro m
    induction m with
    | zero =>
      intro o A ho fA hA
      refine gX12_lookAt_5 ?_
      unfold fX12_lookAt_5
      rw [show (256 : Int32) = iI 256 from rfl, iI_le (by omega) (by omega) (by omega) (by omega)]
      exact ⟨fun _ => pics y.1 0 A (by omega) fA (fun i hi => by rw [hA i (by omega)]; rfl), fun c => absurd (by omega) c⟩
    | succ m ih =>
      intro o A ho fA hA
      refine gX12_lookAt_5 ?_
      unfold fX12_lookAt_5
      rw [show (256 : Int32) = iI 256 from rfl, iI_le (by omega) (by omega) (by omega) (by omega), iI_cl (a := (o : Nat)) (by omega) (by omega), Int.toNat_natCast, show iI (o : Nat) + 1 = iI ((o + 1 : Nat)) from iI_add (o : Nat) 1]
      refine ⟨fun c => absurd c (by omega), fun _ => ⟨vpk (by omega) (by omega), ih (o + 1) _ (by omega) (fA.sA (by simp)) (fun i hi => ?_)⟩⟩
      rw [gA_sA, if_pos rfl, if_pos rfl]
      by_cases c : i = o
      · rw [if_pos c]
      · rw [if_neg c]; exact hA i (by omega)
  exact clr 256 0 P (by omega) Fr.rf (fun i hi => absurd hi (Nat.not_lt_zero i))
/-! ===== the Model: DOTS, DOT, POINT ===== -/
noncomputable def nK (y : SY) (z k : Int) (p : Nat) (v : Int) : Nat := cnt (fun e => decide (knd y z k p e = v)) (nD (y.2.1 p) z)
theorem knd_bd (y : SY) (z k : Int) (p e : Nat) : 0 ≤ knd y z k p e ∧ knd y z k p e ≤ 2 := by unfold knd; split; omega; split <;> omega
theorem M_kinds {d p : Nat} {y : SY} {z k v : Int} {x : Int32} {P : PS} {R : List PS} {Q : Option AV → List PS → Prop} (hx : x = iI v) (hv : 0 ≤ v ∧ v ≤ 2) (hL : LaM y z k p P) (h : Q (some (vI (iI (nK y z k p v : Nat)))) (P :: R)) : Tri 208 d [vR 0 0 0, vI x] (P :: R) Q := by
  subst hx
  have h12 := (nD_le (y.2.1 p) z).1
  refine enX12_kinds ?_
  unfold fX12_kinds_0
  have key : ∀ (m e : Nat), e + m = nD (y.2.1 p) z → cX12_kinds_4 (0, 0, 0, 0) d (iI v) (iI (cnt (fun e => decide (knd y z k p e = v)) e : Nat)) (iI (e : Nat)) P R Q := by
    intro m
    induction m with
    | zero =>
      intro e he
      have ee : e = nD (y.2.1 p) z := by omega
      subst ee
      refine gX12_kinds_4 ?_
      unfold fX12_kinds_4
      rw [hL.1.1, iI_le (by omega) (by omega) (by omega) (by omega)]
      exact ⟨fun _ => h, fun c => absurd (by omega) c⟩
    | succ m ih =>
      intro e he
      have kb := knd_bd y z k p e
      have st : cnt (fun e => decide (knd y z k p e = v)) (e + 1) = cnt (fun e => decide (knd y z k p e = v)) e + (if decide (knd y z k p e = v) = true then 1 else 0) := rfl
      have ih' := ih (e + 1) (by omega)
      rw [st] at ih'
      refine gX12_kinds_4 ?_
      unfold fX12_kinds_4
      rw [hL.1.1, iI_le (by omega) (by omega) (by omega) (by omega), iI_cl (a := (e : Nat)) (by omega) (by omega), Int.toNat_natCast, hL.2.1 e (by omega), iI_eq (by omega) (by omega) (by omega) (by omega), show iI (e : Nat) + 1 = iI ((e + 1 : Nat)) from iI_add (e : Nat) 1]
      refine ⟨fun c => absurd c (by omega), fun _ => ⟨vpk (by omega) (by omega), fun c => ?_, fun c => ?_⟩⟩
      · rw [decide_eq_false c] at ih'
        rw [show iI (cnt (fun e => decide (knd y z k p e = v)) e : Nat) + 0 = iI (cnt (fun e => decide (knd y z k p e = v)) e : Nat) from iI_add _ 0]
        exact ih'
      · rw [decide_eq_true c] at ih'
        rw [show iI (cnt (fun e => decide (knd y z k p e = v)) e : Nat) + 1 = iI ((cnt (fun e => decide (knd y z k p e = v)) e + 1 : Nat)) from iI_add _ 1]
        exact ih'
  exact key (nD (y.2.1 p) z) 0 (by omega)
noncomputable def dotsS (y : SY) (z a k : Int) (x : Int32) : Int := if cntS y a k = true then (if x = 0 then (nD (y.2.1 a.toNat) z : Nat) else if x = 1 then (nK y z k a.toNat 1 : Nat) else if x = 2 then (nK y z k a.toNat 2 : Nat) else if x = 3 then (nP y z k a.toNat : Nat) else -1) else -1
theorem cntS_lt {y : SY} {a k : Int} (h : cntS y a k = true) : 0 ≤ a ∧ a.toNat < y.1 := by
  unfold cntS ctB at h
  simp only [Bool.and_eq_true, decide_eq_true_eq] at h
  exact ⟨h.1, h.2.1⟩
theorem M_dots {d w : Nat} {y : SY} {z t a k : Int} {x : Int32} {P : PS} {R : List PS} {Q : Option AV → List PS → Prop} (ha : -2147483648 ≤ a ∧ a < 2147483648) (hk : -2147483648 ≤ k ∧ k < 2147483648) (hS : StM y w z t P) (h : ∀ P', Fr laI [] laA [] P P' → Q (some (vI (iI (dotsS y z a k x)))) (P' :: R)) : Tri 209 (d + 4) [vR 0 0 0, vI (iI a), vI x, vI (iI k)] (P :: R) Q := by
  have hc := hS.2.1
  refine enX12_dots ?_
  unfold fX12_dots_0
  unfold dotsS at h
  refine M_counts rfl rfl ha hk hS ?_
  dsimp only [hx1, rI]
  rw [oI_z]
  refine ⟨fun c => ?_, fun c => ?_⟩
  · have ct : cntS y a k = true := by simpa using c
    have ap := cntS_lt ct
    rw [if_pos ct] at h
    refine M_lookAt (p := a.toNat) (by congr 1; omega) rfl hk hS ap.2 (fun P' lP fP => ?_)
    dsimp only [hx1, rV]
    have hh := h P' fP
    refine ⟨fun c0 => ⟨fun c1 => ⟨fun c2 => ⟨fun c3 => ?_, fun c3 => ?_⟩, fun c2 => M_kinds (v := 2) rfl (by omega) lP ?_⟩, fun c1 => M_kinds (v := 1) rfl (by omega) lP ?_⟩, fun c0 => ?_⟩
    · rw [if_neg c0, if_neg c1, if_neg c2, if_neg c3] at hh; exact hh
    · rw [if_neg c0, if_neg c1, if_neg c2, if_pos c3] at hh; rw [lP.2.2.1]; exact hh
    · dsimp only [hx1, rI]; rw [if_neg c0, if_neg c1, if_pos c2] at hh; exact hh
    · dsimp only [hx1, rI]; rw [if_neg c0, if_pos c1] at hh; exact hh
    · rw [if_pos c0] at hh; rw [lP.1.1]; exact hh
  · have := h P Fr.rf
    rw [c] at this; exact this
noncomputable def dotS (y : SY) (z a b k : Int) (x : Int32) : Int := if cntS y a k = true ∧ 0 ≤ b ∧ b < (nD (y.2.1 a.toNat) z : Nat) then (if x = 0 then (dt (y.2.1 a.toNat) z b.toNat).1 else if x = 1 then (dt (y.2.1 a.toNat) z b.toNat).2.1 else if x = 2 then (dt (y.2.1 a.toNat) z b.toNat).2.2.1 else if x = 3 then knd y z k a.toNat b.toNat else if x = 4 then (dt (y.2.1 a.toNat) z b.toNat).2.2.2.1 else -1) else -1
theorem M_dot {d w : Nat} {y : SY} {z t a b k : Int} {x : Int32} {P : PS} {R : List PS} {Q : Option AV → List PS → Prop} (ha : -2147483648 ≤ a ∧ a < 2147483648) (hb : -2147483648 ≤ b ∧ b < 2147483648) (hk : -2147483648 ≤ k ∧ k < 2147483648) (hS : StM y w z t P) (h : ∀ P', Fr laI [] laA [] P P' → Q (some (vI (iI (dotS y z a b k x)))) (P' :: R)) : Tri 210 (d + 4) [vR 0 0 0, vI (iI a), vI (iI b), vI x, vI (iI k)] (P :: R) Q := by
  have hc := hS.2.1
  refine enX12_dot ?_
  unfold fX12_dot_0
  unfold dotS at h
  refine M_counts rfl rfl ha hk hS ?_
  dsimp only [hx1, rI]
  rw [oI_z]
  refine ⟨fun c => ?_, fun c => ?_⟩
  · have ct : cntS y a k = true := by simpa using c
    have ap := cntS_lt ct
    refine M_lookAt (p := a.toNat) (by congr 1; omega) rfl hk hS ap.2 (fun P' lP fP => ?_)
    dsimp only [hx1, rV]
    have hh := h P' fP
    have h12 := (nD_le (y.2.1 a.toNat) z).1
    rw [lP.1.1]
    refine M_isIn rfl rfl hb (by omega) ?_
    dsimp only [hx1, rI]
    rw [oI_dec]
    refine ⟨fun q => ?_, fun q => ?_⟩
    · have q' := Decidable.not_not.mp q
      rw [if_pos ⟨ct, q'⟩] at hh
      obtain ⟨o, ho, e1, e2⟩ := lP.1.at (show b.toNat < nD (y.2.1 a.toNat) z by omega)
      have vb : vp_in (iI b) 140 := by rw [iI_in (by omega) (by omega)]; omega
      have vb2 : vp_in (iI b) 12 := by rw [iI_in (by omega) (by omega)]; omega
      have vo : vp_in (iI (o : Nat)) 140 := vpk ho (by omega)
      rw [iI_cl (a := b) (by omega) (by omega), e1, iI_cl (a := (o : Nat)) (by omega) (by omega), Int.toNat_natCast, e2.1, e2.2.1, e2.2.2.1, e2.2.2.2.1, lP.2.1 b.toNat (by omega)]
      refine ⟨vb, fun c0 => ⟨vo, ?_⟩, fun c0 => ⟨fun c1 => ⟨vo, ?_⟩, fun c1 => ⟨fun c2 => ⟨vo, ?_⟩, fun c2 => ⟨fun c3 => ⟨vb2, ?_⟩, fun c3 => ⟨fun c4 => ⟨vo, ?_⟩, fun c4 => ?_⟩⟩⟩⟩⟩
      · rw [if_pos c0] at hh; exact hh
      · rw [if_neg c0, if_pos c1] at hh; exact hh
      · rw [if_neg c0, if_neg c1, if_pos c2] at hh; exact hh
      · rw [if_neg c0, if_neg c1, if_neg c2, if_pos c3] at hh; exact hh
      · rw [if_neg c0, if_neg c1, if_neg c2, if_neg c3, if_pos c4] at hh; exact hh
      · rw [if_neg c0, if_neg c1, if_neg c2, if_neg c3, if_neg c4] at hh; exact hh
    · rw [if_neg (fun g => q g.2)] at hh; exact hh
  · have := h P Fr.rf
    rw [if_neg (fun g => by rw [c] at g; exact absurd g.1 (by decide))] at this; exact this
noncomputable def pointS (y : SY) (z a b k : Int) : Int := if cntS y a k = true ∧ 0 ≤ b ∧ b < (nP y z k a.toNat : Nat) then (ptD y z k a.toNat b.toNat : Nat) else -1
theorem nP_le (y : SY) (z k : Int) (p : Nat) : nP y z k p ≤ 12 := Nat.le_trans (cnt_le _ _) (nD_le (y.2.1 p) z).1
theorem M_point {d w : Nat} {y : SY} {z t a b k : Int} {P : PS} {R : List PS} {Q : Option AV → List PS → Prop} (ha : -2147483648 ≤ a ∧ a < 2147483648) (hb : -2147483648 ≤ b ∧ b < 2147483648) (hk : -2147483648 ≤ k ∧ k < 2147483648) (hS : StM y w z t P) (h : ∀ P', Fr laI [] laA [] P P' → Q (some (vI (iI (pointS y z a b k)))) (P' :: R)) : Tri 211 (d + 4) [vR 0 0 0, vI (iI a), vI (iI b), vI (iI k)] (P :: R) Q := by
  have hc := hS.2.1
  refine enX12_point ?_
  unfold fX12_point_0
  unfold pointS at h
  refine M_counts rfl rfl ha hk hS ?_
  dsimp only [hx1, rI]
  rw [oI_z]
  refine ⟨fun c => ?_, fun c => ?_⟩
  · have ct : cntS y a k = true := by simpa using c
    have ap := cntS_lt ct
    refine M_lookAt (p := a.toNat) (by congr 1; omega) rfl hk hS ap.2 (fun P' lP fP => ?_)
    dsimp only [hx1, rV]
    have hh := h P' fP
    have h12 := nP_le y z k a.toNat
    rw [lP.2.2.1]
    refine M_isIn rfl rfl hb (by omega) ?_
    dsimp only [hx1, rI]
    rw [oI_dec]
    refine ⟨fun q => ?_, fun q => ?_⟩
    · rw [if_neg (fun g => q g.2)] at hh; exact hh
    · have q' := Decidable.not_not.mp q
      rw [if_pos ⟨ct, q'⟩] at hh
      rw [iI_in (by omega) (by omega), iI_cl (a := b) (by omega) (by omega), lP.2.2.2 b.toNat (by omega)]
      exact ⟨by omega, hh⟩
  · have := h P Fr.rf
    rw [if_neg (fun g => by rw [c] at g; exact absurd g.1 (by decide))] at this; exact this
