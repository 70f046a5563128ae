/-! ===== TRUST: the numbers of a PICTURE, the Model ===== -/
noncomputable def qtS (y : SY) (z k : Int) (l : List SR) (f : Nat → Int) (p : Nat) (j : Nat) : Int32 := if j = 1 then iI (nD (y.2.1 p) z : Nat) else if j = 2 then iI ((nmP y z k l f p).2 : Nat) else if j = 3 then iI ((nmP y z k l f p).1.length : Nat) else if j = 4 then iI (nK y z k p 2 : Nat) else if j = 5 then iI (nK y z k p 1 : Nat) else if j = 6 then oI (dcd (telP y z k l f p)) else if j = 7 then (if (nmP y z k l f p).1.length = 0 then 0 else (strS 0 y z k l f p 0).toInt32) else iI (smB (fun _ => true) (fun i => (dt (y.2.1 p) z i).2.2.1) (nD (y.2.1 p) z))
theorem rt_31 {s : Nat} (h : s < 4611686018427387904) : rt s < 2147483648 := by
  have h1 := (rt_ok s).1
  rcases Nat.lt_or_ge (rt s) 2147483648 with g | g
  · exact g
  · have := Nat.mul_le_mul g g
    omega
theorem str_ne {y : SY} {z k : Int} {p w i : Nat} {l : List SR} {f : Nat → Int} {n : Int64} (hK : LtK p w z (y.2.1 p)) (hF : FOK f) (hl : l.length ≤ 32) (hs : ∀ s ∈ l, StOK s) (hi : i < (nmP y z k l f p).1.length) (h : tuA y z k l f p i ≠ 0) : strS n y z k l f p i ≠ iL (-1000000000000) ∧ strS n y z k l f p i = strS 0 y z k l f p i := by
  have bd := tu_bd hK hF hl hs hi
  have ss := sq_sum bd.2.2.1 bd.2.2.2.1
  have rb := rt_31 ss.1
  unfold strS
  rw [if_neg h, if_neg h]
  refine ⟨?_, rfl⟩
  generalize rt (tuC y z k l f p i * tuC y z k l f p i + tuS y z k l f p i * tuS y z k l f p i).toNat = r at *
  have a0 := bd.2.1
  generalize tuA y z k l f p i = a at *
  have n0 : 0 ≤ (r : Int) * 1000 / a := Int.ediv_nonneg (by omega) (by omega)
  have n1 : (r : Int) * 1000 / a ≤ (r : Int) * 1000 := Int.ediv_le_self _ (by omega)
  rw [show (1000 : Int64) = iL 1000 from rfl, iL_mul, iL_div (by omega) (by omega) (by omega) (by omega), Ne, iL_eq (by omega) (by omega) (by omega) (by omega)]
  omega
theorem NmM.fq {y : SY} {z k : Int} {p w : Nat} {l : List SR} {f : Nat → Int} {P P' : PS} {ls bs : List Nat} (h : NmM y z k p w l f P) (hf : Fr [] ls [79] bs P P') : NmM y z k p w l f P' :=
  ⟨⟨h.1.1.fr hf (by simp) (by simp) (by simp) (by simp) (by simp) (by simp) (by simp) (by simp) (by simp) (by simp), h.1.2.1, h.1.2.2.1, h.1.2.2.2.1.fr hf (by simp) (by simp) (by simp) (by simp) (by simp), ⟨fun a b ha hb => by rw [hf.2.2.2.1 _ _ (by simp)]; exact h.1.2.2.2.2.1.1 a b ha hb, fun i j hi hj => by rw [hf.2.2.2.1 _ _ (by simp)]; exact h.1.2.2.2.2.1.2 i j hi hj⟩, h.1.2.2.2.2.2⟩, ⟨by rw [hf.2.1 _ (by simp)]; exact h.2.1.1, fun e q he hq => by rw [hf.2.2.2.1 _ _ (by simp)]; exact h.2.1.2 e q he hq⟩, by rw [hf.2.1 _ (by simp)]; exact h.2.2⟩
def TqM (A : Nat → Int32) (m : Nat) (P : PS) : Prop := ∀ j, 1 ≤ j → j ≤ m → gA P 0 79 j = A j
theorem TqM.fr {A : Nat → Int32} {m : Nat} {P P' : PS} {is ls as bs : List Nat} (h : TqM A m P) (hf : Fr is ls as bs P P') (h1 : 79 ∉ as) : TqM A m P' := fun j h0 h8 => by rw [hf.2.2.2.1 _ _ h1]; exact h j h0 h8
theorem TqM.up {A : Nat → Int32} {m n : Nat} {v : Int32} {P : PS} (h : TqM A m P) (hn : n = m + 1) (hv : v = A n) : TqM A n (sA P 0 79 n v) := fun j h0 h8 => by
  rw [gA_sA, if_pos rfl, if_pos rfl]
  by_cases c : j = n
  · rw [if_pos c, c]; exact hv
  · rw [if_neg c]; exact h j h0 (by omega)
theorem qt_8 (y : SY) (z k : Int) (l : List SR) (f : Nat → Int) (p : Nat) : qtS y z k l f p 8 = iI (smB (fun _ => true) (fun i => (dt (y.2.1 p) z i).2.2.1) (nD (y.2.1 p) z)) := rfl
theorem qt_7 (y : SY) (z k : Int) (l : List SR) (f : Nat → Int) (p : Nat) : qtS y z k l f p 7 = (if (nmP y z k l f p).1.length = 0 then 0 else (strS 0 y z k l f p 0).toInt32) := rfl
theorem M_t126 {d p w u : Nat} {y : SY} {z k : Int} {l : List SR} {f : Nat → Int} {rs : List RLt} {P0 : PS} {R : List PS} {Q : Option AV → List PS → Prop} (hN : NmM y z k p w l f P0) (hT : TqM (qtS y z k l f p) 7 P0) (hR : RlM rs u P0) (hK : RsK rs) (hV : VC (cds rs)) (hl : (cds rs).length ≤ 300) (h : ∀ P', Fr [] [] [79, 78] [] P0 P' → Q (some (vI (iI (trS (qtS y z k l f p) rs)))) (P' :: R)) : ∀ (m e : Nat) (P : PS), e + m = nD (y.2.1 p) z → gA P 0 79 8 = iI (smB (fun _ => true) (fun i => (dt (y.2.1 p) z i).2.2.1) e) → (∀ j, j ≠ 8 → gA P 0 79 j = gA P0 0 79 j) → Fr [] [] [79] [] P0 P → cX12_trustOf_126 (0, 0, 0, 0) (d + 1) (iI (e : Nat)) P R Q := by
  have n12 := nD_le (y.2.1 p) z
  intro m
  induction m with
  | zero =>
    intro e P he hs ho hf
    have : e = nD (y.2.1 p) z := by omega
    subst this
    refine gX12_trustOf_126 ?_
    unfold fX12_trustOf_126
    have NP := hN.fq hf
    rw [show gI P 0 39 = _ from NP.1.1.1.1, iI_le (by omega) (by omega) (by omega) (by omega)]
    refine ⟨fun _ => ?_, fun g => absurd (by omega) g⟩
    have RP : RlM rs u P := ⟨by rw [hf.2.1 _ (by simp)]; exact hR.1, by rw [hf.2.1 _ (by simp)]; exact hR.2.1, fun i hi => by rw [hf.2.2.2.1 _ _ (by simp), hf.2.2.2.1 _ _ (by simp)]; exact hR.2.2.1 i hi, fun r hr => by rw [hf.2.2.2.1 _ _ (by simp)]; exact hR.2.2.2.1 r hr, fun r hr hp => by rw [hf.2.2.2.1 _ _ (by simp)]; exact hR.2.2.2.2 r hr hp⟩
    have AP : AsM (qtS y z k l f p) P := fun j h1 h8 => by
      by_cases c : j = 8
      · subst c; rw [qt_8]; exact hs
      · rw [ho j c]; exact hT j h1 (by omega)
    exact M_tr RP AP hK hV hl rs.length 0 P (by omega) Fr.rf (fun P' f' => h P' ((hf.mono (by simp) (by simp) (by simp) (by simp)).trs (f'.mono (by simp) (by simp) (by simp) (by simp))))
  | succ m ih =>
    intro e P he hs ho hf
    have NP := hN.fq hf
    refine gX12_trustOf_126 ?_
    unfold fX12_trustOf_126
    obtain ⟨o, o1, o2, o3⟩ := NP.1.1.1.at (i := e) (by omega)
    rw [show gI P 0 39 = _ from NP.1.1.1.1, iI_le (by omega) (by omega) (by omega) (by omega), iI_cl (a := (e : Nat)) (by omega) (by omega), Int.toNat_natCast, show gA P 0 35 e = _ from o2, iI_cl (a := (o : Nat)) (by omega) (by omega), Int.toNat_natCast, show gA P 0 30 o = _ from o3.2.2.1, show (8 : Int32).toNatClampNeg = 8 from rfl, show gA P 0 79 8 = _ from hs, iI_add, show iI (e : Nat) + 1 = iI ((e + 1 : Nat)) from iI_add _ 1]
    refine ⟨fun g => absurd g (by omega), fun _ => ⟨vpk (k := 8) (by omega) (by omega), vpk (by omega) (by omega), vpk (by omega) (by omega), vpk (k := 8) (by omega) (by omega), ?_⟩⟩
    refine ih (e + 1) _ (by omega) ?_ (fun j hj => ?_) (hf.sA (by simp))
    · rw [gA_sA, if_pos rfl, if_pos rfl, if_pos rfl, smB_s, if_pos rfl]
    · rw [gA_sA, if_pos rfl, if_pos rfl, if_neg hj]; exact ho j hj
theorem M_t93 {d p w u : Nat} {y : SY} {z k : Int} {l : List SR} {f : Nat → Int} {rs : List RLt} {s : Int64} {P : PS} {R : List PS} {Q : Option AV → List PS → Prop} (hN : NmM y z k p w l f P) (hT : TqM (qtS y z k l f p) 6 P) (hR : RlM rs u P) (hK : RsK rs) (hV : VC (cds rs)) (hl : (cds rs).length ≤ 300) (hs : (s = iL (-1000000000000) → qtS y z k l f p 7 = 0) ∧ (s ≠ iL (-1000000000000) → qtS y z k l f p 7 = s.toInt32)) (h : ∀ P', Fr [] [] [79, 78] [] P P' → Q (some (vI (iI (trS (qtS y z k l f p) rs)))) (P' :: R)) : cX12_trustOf_93 (0, 0, 0, 0) (d + 1) s P R Q := by
  have go : ∀ v : Int32, v = qtS y z k l f p 7 → cX12_trustOf_126 (0, 0, 0, 0) (d + 1) 0 (sA (sA P 0 79 7 v) 0 79 8 0) R Q := by
    intro v hv
    have f1 : Fr [] [] [79] [] P (sA (sA P 0 79 7 v) 0 79 8 0) := (Fr.rf.sA (by simp)).sA (by simp)
    have t1 : TqM (qtS y z k l f p) 7 (sA (sA P 0 79 7 v) 0 79 8 0) := fun j h1 h7 => by
      have := hT.up (n := 7) rfl hv j h1 h7
      rw [gA_sA, if_pos rfl, if_pos rfl, if_neg (by omega)]
      exact this
    have R1 : RlM rs u (sA (sA P 0 79 7 v) 0 79 8 0) := ⟨hR.1, hR.2.1, fun i hi => by rw [f1.2.2.2.1 _ _ (by simp), f1.2.2.2.1 _ _ (by simp)]; exact hR.2.2.1 i hi, fun r hr => by rw [f1.2.2.2.1 _ _ (by simp)]; exact hR.2.2.2.1 r hr, fun r hr hp => by rw [f1.2.2.2.1 _ _ (by simp)]; exact hR.2.2.2.2 r hr hp⟩
    have z1 : gA (sA (sA P 0 79 7 v) 0 79 8 0) 0 79 8 = 0 := by rw [gA_sA, if_pos rfl, if_pos rfl, if_pos rfl]
    have N1 := hN.fq f1
    generalize sA (sA P 0 79 7 v) 0 79 8 0 = C at *
    exact M_t126 N1 t1 R1 hK hV hl (fun P' f' => h P' ((f1.mono (by simp) (by simp) (by simp) (by simp)).trs f')) (nD (y.2.1 p) z) 0 C (by omega) z1 (fun j _ => rfl) Fr.rf
  refine gX12_trustOf_93 ?_
  unfold fX12_trustOf_93
  rw [lcmp_eq, show (-1000000000000 : Int64) = iL (-1000000000000) from rfl, show (7 : Int32).toNatClampNeg = 7 from rfl, show (8 : Int32).toNatClampNeg = 8 from rfl]
  exact ⟨fun c => ⟨vpk (k := 7) (by omega) (by omega), vpk (k := 8) (by omega) (by omega), go _ (hs.2 c).symm⟩, fun c => ⟨vpk (k := 7) (by omega) (by omega), vpk (k := 8) (by omega) (by omega), go _ (hs.1 c).symm⟩⟩
abbrev trL : List Nat := [50, 51, 52, 53, 54, 55, 56, 57, 58, 59]
abbrev trA : List Nat := [30, 31, 32, 33, 37, 36, 35, 40, 41, 34, 42, 44, 45, 46, 47, 79, 78]
theorem RlM.fr {rs : List RLt} {u : Nat} {P P' : PS} {is ls as bs : List Nat} (hR : RlM rs u P) (hf : Fr is ls as bs P P') (h1 : 83 ∉ is) (h2 : 84 ∉ is) (g1 : 73 ∉ as) (g2 : 74 ∉ as) (g3 : 76 ∉ as) (g4 : 75 ∉ as) : RlM rs u P' :=
  ⟨by rw [hf.2.1 _ h1]; exact hR.1, by rw [hf.2.1 _ h2]; exact hR.2.1, fun i hi => by rw [hf.2.2.2.1 _ _ g1, hf.2.2.2.1 _ _ g2]; exact hR.2.2.1 i hi, fun r hr => by rw [hf.2.2.2.1 _ _ g3]; exact hR.2.2.2.1 r hr, fun r hr hp => by rw [hf.2.2.2.1 _ _ g4]; exact hR.2.2.2.2 r hr hp⟩
theorem M_trustOf {d p w u : Nat} {y : SY} {z t k : Int} {l : List SR} {f : Nat → Int} {rs : List RLt} {x v : Int32} {P : PS} {R : List PS} {Q : Option AV → List PS → Prop} (hx : x = iI (p : Nat)) (hv : v = iI k) (hk : -2147483648 ≤ k ∧ k < 2147483648) (hS : StM y w z t P) (hp : p < y.1) (hB : BoM l f P) (hF : FOK f) (hR : RlM rs u P) (hK : RsK rs) (hV : VC (cds rs)) (hl : (cds rs).length ≤ 300) (h : ∀ P', Fr snI trL trA [] P P' → Q (some (vI (iI (trS (qtS y z k l f p) rs)))) (P' :: R)) : Tri 278 (d + 5) [vR 0 0 0, vI x, vI v] (P :: R) Q := by
  refine enX12_trustOf ?_
  unfold fX12_trustOf_0
  refine M_seekNamings hx hv hk hS hp hB hF (fun B nB fB => ?_)
  dsimp only [hx1, rV]
  rw [show (1 : Int32).toNatClampNeg = 1 from rfl, show (2 : Int32).toNatClampNeg = 2 from rfl, show (3 : Int32).toNatClampNeg = 3 from rfl, show gI B 0 39 = _ from nB.1.1.1.1, show gI B 0 49 = _ from nB.2.2, show gI B 0 48 = _ from nB.2.1.1]
  refine ⟨vpk (k := 1) (by omega) (by omega), vpk (k := 2) (by omega) (by omega), vpk (k := 3) (by omega) (by omega), ?_⟩
  have f1 : Fr [] [] [79] [] B (sA (sA (sA B 0 79 1 (iI (nD (y.2.1 p) z : Nat))) 0 79 2 (iI ((nmP y z k l f p).2 : Nat))) 0 79 3 (iI ((nmP y z k l f p).1.length : Nat))) := ((Fr.rf.sA (by simp)).sA (by simp)).sA (by simp)
  have t0 : TqM (qtS y z k l f p) 0 B := fun j h1 h0 => absurd h0 (by omega)
  have t1 := ((t0.up (n := 1) (v := iI (nD (y.2.1 p) z : Nat)) rfl rfl).up (n := 2) (v := iI ((nmP y z k l f p).2 : Nat)) rfl rfl).up (n := 3) (v := iI ((nmP y z k l f p).1.length : Nat)) rfl rfl
  have n1 := nB.fq f1
  generalize sA (sA (sA B 0 79 1 (iI (nD (y.2.1 p) z : Nat))) 0 79 2 (iI ((nmP y z k l f p).2 : Nat))) 0 79 3 (iI ((nmP y z k l f p).1.length : Nat)) = B1 at *
  refine M_kinds (v := 2) rfl (by omega) n1.1.1 ?_
  dsimp only [hx1, rI]
  rw [show (4 : Int32).toNatClampNeg = 4 from rfl]
  refine ⟨vpk (k := 4) (by omega) (by omega), ?_⟩
  have f2 : Fr [] [] [79] [] B (sA B1 0 79 4 (iI (nK y z k p 2 : Nat))) := f1.sA (by simp)
  have t2 := t1.up (n := 4) (v := iI (nK y z k p 2 : Nat)) rfl rfl
  have n2 := nB.fq f2
  generalize sA B1 0 79 4 (iI (nK y z k p 2 : Nat)) = B2 at *
  refine M_kinds (v := 1) rfl (by omega) n2.1.1 ?_
  dsimp only [hx1, rI]
  rw [show (5 : Int32).toNatClampNeg = 5 from rfl]
  refine ⟨vpk (k := 5) (by omega) (by omega), ?_⟩
  have f3 : Fr [] [] [79] [] B (sA B2 0 79 5 (iI (nK y z k p 1 : Nat))) := f2.sA (by simp)
  have t3 := t2.up (n := 5) (v := iI (nK y z k p 1 : Nat)) rfl rfl
  have n3 := nB.fq f3
  generalize sA B2 0 79 5 (iI (nK y z k p 1 : Nat)) = B3 at *
  refine M_tells n3 (fun C fC => ?_)
  dsimp only [hx1, rI]
  have lle : (nmP y z k l f p).1.length ≤ 200 := (nmF_le (qX y z k f p) (qY y z k f p) l (f 4) (aP y z k p) (aP y z k p)).1
  have nC := n3.same fC
  have FC : Fr [] [50, 51] [79] [] B C := (f3.mono (by simp) (by simp) (by simp) (by simp)).trs (fC.mono (by simp) (by simp) (by simp) (by simp))
  have tC := t3.fr fC (by simp)
  have RB := hR.fr fB (by simp) (by simp) (by simp) (by simp) (by simp) (by simp)
  have go : ∀ v : Int32, v = oI (dcd (telP y z k l f p)) → (gI C 0 48 ≤ 0 → cX12_trustOf_93 (0, 0, 0, 0) (d + 4) (0 : Int64) (sA C 0 79 6 v) R Q) ∧ (¬ gI C 0 48 ≤ 0 → Tri 247 (d + 4) [vR 0 0 0, vI 0] ((sA C 0 79 6 v) :: R) (fun r5 h5 => hx1 h5 fun P0_5 R_5 => rL r5 fun y5 => cX12_trustOf_93 (0, 0, 0, 0) (d + 4) y5 P0_5 R_5 Q)) := by
    intro v hv
    have f4 : Fr [] [50, 51] [79] [] B (sA C 0 79 6 v) := FC.sA (by simp)
    have t4 := tC.up (n := 6) (v := v) rfl hv
    have n4 := nB.fq f4
    have R4 := RB.fr f4 (by simp) (by simp) (by simp) (by simp) (by simp) (by simp)
    have F4 : Fr snI trL trA [] P (sA C 0 79 6 v) := (fB.mono (by simp) (by simp) (by simp) (by simp)).trs (f4.mono (by simp) (by simp) (by simp) (by simp))
    rw [show gI C 0 48 = _ from nC.2.1.1, show (0 : Int32) = iI 0 from rfl, iI_le (by omega) (by omega) (by omega) (by omega)]
    generalize sA C 0 79 6 v = D at *
    refine ⟨fun c => ?_, fun c => ?_⟩
    · refine M_t93 n4 t4 R4 hK hV hl ⟨fun g => absurd g (by decide), fun _ => ?_⟩ (fun P' f' => h P' (F4.trs (f'.mono (by simp) (by simp) (by simp) (by simp))))
      rw [qt_7, if_pos (by omega)]; rfl
    · refine M_stretchOf (i := 0) rfl n4 (by omega) (fun E fE => ?_)
      dsimp only [hx1, rL]
      have FE : Fr snI trL trA [] P E := F4.trs (fE.mono (by simp) (by simp) (by simp) (by simp))
      refine M_t93 (n4.same fE) (t4.fr fE (by simp)) (R4.fr fE (by simp) (by simp) (by simp) (by simp) (by simp) (by simp)) hK hV hl ?_ (fun P' f' => h P' (FE.trs (f'.mono (by simp) (by simp) (by simp) (by simp))))
      rw [qt_7, if_neg (by omega)]
      by_cases a0 : tuA y z k l f p 0 = 0
      · have e1 : ∀ n, strS n y z k l f p 0 = n := fun n => by unfold strS; rw [if_pos a0]
        rw [e1, e1]
        exact ⟨fun _ => rfl, fun g => absurd rfl g⟩
      · have sn := str_ne (n := iL (-1000000000000)) n4.1.2.1 hF n4.1.2.2.2.1.1.2.1 n4.1.2.2.2.1.1.2.2.1 (i := 0) (by omega) a0
        exact ⟨fun g => absurd g sn.1, fun _ => by rw [sn.2]⟩
  rw [oI_z, show (6 : Int32).toNatClampNeg = 6 from rfl]
  refine ⟨fun c => ⟨vpk (k := 6) (by omega) (by omega), go 0 ?_⟩, fun c => ⟨vpk (k := 6) (by omega) (by omega), go 1 ?_⟩⟩
  · rw [c]; rfl
  · rw [show dcd (telP y z k l f p) = true by simpa using c]; rfl
noncomputable def trustS (y : SY) (z a k : Int) (l : List SR) (f : Nat → Int) (rs : List RLt) : Int := if cntS y a k = true then trS (qtS y z k l f a.toNat) rs else -1
theorem M_trust {d w u : Nat} {y : SY} {z t a k : Int} {l : List SR} {f : Nat → Int} {rs : List RLt} {P : PS} {R : List PS} {Q : Option AV → List PS → Prop} (ha : -2147483648 ≤ a ∧ a < 2147483648) (hk : -2147483648 ≤ k ∧ k < 2147483648) (hS : StM y w z t P) (hB : BoM l f P) (hF : FOK f) (hR : RlM rs u P) (hK : RsK rs) (hV : VC (cds rs)) (hl : (cds rs).length ≤ 300) (h : ∀ P', Fr snI trL trA [] P P' → Q (some (vI (iI (trustS y z a k l f rs)))) (P' :: R)) : Tri 279 (d + 6) [vR 0 0 0, vI (iI a), vI (iI k)] (P :: R) Q := by
  refine enX12_trust ?_
  unfold fX12_trust_0
  unfold trustS at h
  refine M_counts rfl rfl ha hk hS ?_
  dsimp only [hx1, rI]
  rw [oI_z]
  refine ⟨fun c => ?_, fun c => ?_⟩
  · have := h P Fr.rf
    rw [if_neg (by rw [c]; decide)] at this; exact this
  · have ct : cntS y a k = true := by simpa using c
    have ap := cntS_lt ct
    rw [if_pos ct] at h
    refine M_trustOf (p := a.toNat) (congrArg iI (by omega)) rfl hk hS ap.2 hB hF hR hK hV hl (fun C fC => ?_)
    dsimp only [hx1, rI]
    exact h C fC
/-- which PICTURE is BELIEVED, told up to one -/
noncomputable def belS (y : SY) (z k : Int) (l : List SR) (f : Nat → Int) (rs : List RLt) : Nat → Int × Int
  | 0 => (-1, -1)
  | n + 1 => if 0 ≤ trustS y z (n : Nat) k l f rs ∧ (belS y z k l f rs n).2 ≤ trustS y z (n : Nat) k l f rs then ((n : Nat), trustS y z (n : Nat) k l f rs) else belS y z k l f rs n
theorem trust_bd {y : SY} {z a k : Int} {l : List SR} {f : Nat → Int} {rs : List RLt} (hK : RsK rs) : -1 ≤ trustS y z a k l f rs ∧ trustS y z a k l f rs ≤ 99 := by
  unfold trustS
  split
  · have := trS_bd (qtS y z k l f a.toNat) rs (fun r hr => (hK.2 r hr).1)
    omega
  · omega
theorem bel_bd {y : SY} {z k : Int} {l : List SR} {f : Nat → Int} {rs : List RLt} (hK : RsK rs) : ∀ n, (-1 ≤ (belS y z k l f rs n).1 ∧ (belS y z k l f rs n).1 < n) ∧ -1 ≤ (belS y z k l f rs n).2 ∧ (belS y z k l f rs n).2 ≤ 99
  | 0 => by unfold belS; exact ⟨⟨Int.le_refl _, by show (-1 : Int) < (0 : Nat); omega⟩, Int.le_refl _, by show (-1 : Int) ≤ 99; omega⟩
  | n + 1 => by
    have ih := bel_bd (y := y) (z := z) (k := k) (l := l) (f := f) hK n
    have tb := trust_bd (y := y) (z := z) (a := (n : Nat)) (k := k) (l := l) (f := f) hK
    unfold belS
    split
    · exact ⟨⟨by show (-1 : Int) ≤ (n : Nat); omega, by show ((n : Nat) : Int) < ((n + 1 : Nat) : Int); omega⟩, tb⟩
    · exact ⟨⟨ih.1.1, by omega⟩, ih.2⟩
theorem M_believed {d w u : Nat} {y : SY} {z t k : Int} {l : List SR} {f : Nat → Int} {rs : List RLt} {P0 : PS} {R : List PS} {Q : Option AV → List PS → Prop} (hk : -2147483648 ≤ k ∧ k < 2147483648) (hS : StM y w z t P0) (hB : BoM l f P0) (hF : FOK f) (hR : RlM rs u P0) (hK : RsK rs) (hV : VC (cds rs)) (hl : (cds rs).length ≤ 300) (h : ∀ P', Fr snI trL trA [] P0 P' → Q (some (vI (iI (belS y z k l f rs y.1).1))) (P' :: R)) : Tri 280 (d + 6) [vR 0 0 0, vI (iI k)] (P0 :: R) Q := by
  have y12 := hS.2.1
  have key : ∀ (m n : Nat) (P : PS), n + m = y.1 → Fr snI trL trA [] P0 P → cX12_believed_7 (0, 0, 0, 0) (d + 5) (iI k) (iI (belS y z k l f rs n).1) (iI (belS y z k l f rs n).2) (iI (n : Nat)) P R Q := by
    intro m
    induction m with
    | zero =>
      intro n P hn hf
      have : n = y.1 := by omega
      subst this
      have SP := hS.fr hf (by simp) (by simp) (by simp) (by simp) (by simp) (by simp) (by simp)
      refine gX12_believed_7 ?_
      unfold fX12_believed_7
      rw [show gI P 0 28 = _ from SP.1, iI_le (by omega) (by omega) (by omega) (by omega)]
      exact ⟨fun _ => h P hf, fun g => absurd (by omega) g⟩
    | succ m ih =>
      intro n P hn hf
      have SP := hS.fr hf (by simp) (by simp) (by simp) (by simp) (by simp) (by simp) (by simp)
      have BP := hB.fr hf (by simp) (by simp) (by simp) (by simp) (by simp)
      have RP := hR.fr hf (by simp) (by simp) (by simp) (by simp) (by simp) (by simp)
      have tb := trust_bd (y := y) (z := z) (a := (n : Nat)) (k := k) (l := l) (f := f) hK
      have bb := bel_bd (y := y) (z := z) (k := k) (l := l) (f := f) hK n
      refine gX12_believed_7 ?_
      unfold fX12_believed_7
      rw [show gI P 0 28 = _ from SP.1, iI_le (by omega) (by omega) (by omega) (by omega), show iI (n : Nat) + 1 = iI ((n + 1 : Nat)) from iI_add _ 1]
      refine ⟨fun g => absurd g (by omega), fun _ => ?_⟩
      refine M_counts (a := (n : Nat)) rfl rfl (by omega) hk SP ?_
      dsimp only [hx1, rI]
      rw [oI_z]
      have e1 : belS y z k l f rs (n + 1) = if 0 ≤ trustS y z (n : Nat) k l f rs ∧ (belS y z k l f rs n).2 ≤ trustS y z (n : Nat) k l f rs then (((n : Nat) : Int), trustS y z (n : Nat) k l f rs) else belS y z k l f rs n := rfl
      refine ⟨fun c => ⟨fun _ => ?_, fun g => absurd (by decide) g⟩, fun c => ?_⟩
      · have tr : trustS y z (n : Nat) k l f rs = -1 := by unfold trustS; rw [if_neg (by rw [c]; decide)]
        have := ih (n + 1) P (by omega) hf
        rw [e1, if_neg (by omega)] at this
        exact this
      · have ct : cntS y (n : Nat) k = true := by simpa using c
        refine M_trustOf (p := n) rfl rfl hk SP (by omega) BP hF RP hK hV hl (fun C fC => ?_)
        dsimp only [hx1, rI]
        have tr : trustS y z (n : Nat) k l f rs = trS (qtS y z k l f n) rs := by unfold trustS; rw [if_pos ct, Int.toNat_natCast]
        rw [← tr, show iI (trustS y z (n : Nat) k l f rs) < (0 : Int32) ↔ trustS y z (n : Nat) k l f rs < 0 from iI_lt (b := 0) (by omega) (by omega) (by omega) (by omega), iI_le (by omega) (by omega) (by omega) (by omega)]
        have ih' := ih (n + 1) C (by omega) (hf.trs fC)
        rw [e1] at ih'
        refine ⟨fun g => ?_, fun g => ⟨fun g1 => ?_, fun g1 => ?_⟩⟩
        · rw [if_neg (by omega)] at ih'; exact ih'
        · rw [if_pos ⟨by omega, g1⟩] at ih'; exact ih'
        · rw [if_neg (by omega)] at ih'; exact ih'
  refine enX12_believed ?_
  unfold fX12_believed_0
  exact key y.1 0 P0 (by omega) Fr.rf
