/-! ===== RULES: the class ===== -/
abbrev rdJ : List Nat := [11, 10, 2, 3, 4, 5, 6, 8, 9]
theorem C_readRules {d j n : Nat} {b : Nat → Int} {P0 P1 P2 P3 P4 : PS} {R : List PS} {Q : Option AV → List PS → Prop} (hn : n ≤ 400) (hl : gI P1 0 1 = iI n) (hb : ∀ i, i < n → gA P1 0 0 i = iI (sb (b i)) ∧ 0 ≤ b i ∧ b i < 256) (ho : OwC P1)
    (hy : ∀ rs u P1' P4', (∃ f, RlsR b n f [] 0 0 (.ok (rs, u))) → RsK rs → (cds rs).length ≤ 400 → u ≤ 40 → vals (cds rs) ≤ u → FaC (0, -1) P1' → Fr rdJ [7] [] [] P1 P1' → LwC j rs u P4' → FrJ j P4 P4' → Q (some (vI 1)) (P0 :: P1' :: P2 :: P3 :: P4' :: R))
    (hno : ∀ e P1' P4', (∃ f, RlsR b n f [] 0 0 (.error e)) → FaC e P1' → Fr rdJ [7] [] [] P1 P1' → FrJ j P4 P4' → Q (some (vI 0)) (P0 :: P1' :: P2 :: P3 :: P4' :: R)) : Tri 65 (d + 61) [vR 11 0 0, vR 1 0 0, vR 4 j 0] (P0 :: P1 :: P2 :: P3 :: P4 :: R) Q := by
  refine enX6_read ?_
  unfold fX6_read_0
  refine C_rulesClear (fun A4 r1 r2 r3 f4 => ?_)
  dsimp only [hx5, rV]
  refine C_open (r := true) rfl hl (by omega) hb ho (fun A1 tA kA fa fA => ?_)
  dsimp only [hx5, rV]
  have f0 : Fr rdJ [7] [] [] P1 A1 := fA.mono (by simp) (by simp) (by simp) (by simp)
  have loop : ∀ (m q u i : Nat) (rs : List RLt) (B1 B4 : PS), n - q ≤ m → q ≤ n → i ≤ q → TxC true b n B1 → TkC (tok true b n q) B1 → FaC (0, -1) B1 → Fr rdJ [7] [] [] P1 B1 → LwC j rs u B4 → FrJ j P4 B4 → RsK rs → (cds rs).length ≤ q → u ≤ 40 → vals (cds rs) ≤ u → (∀ o, (∃ f, RlsR b n f rs u q o) → ∃ f, RlsR b n f [] 0 0 o) → cX6_read_11 (0, 0, 0, 0) (d + 60) j (iI (i : Nat)) P0 B1 P2 P3 B4 R Q := by
    intro m
    induction m with
    | zero =>
      intro q u i rs B1 B4 hm hq hi tB kB faB fB LB FB K lc hu hv co
      have t0 : (tkq b n q).1 = 0 ∨ (tkq b n q).1 = 3 := by
        have k := tok_ok true b hq
        have k1 : (tkq b n q).1 ≤ 4 := k.1
        rcases Nat.lt_or_ge 0 0 with g | g
        · omega
        · refine Classical.byContradiction (fun c => ?_)
          have := tq_lt b n hq (by omega)
          omega
      have kk := kB.k hq
      have fin : (tkq b n q).1 = 0 → Q (some (vI 1)) (P0 :: B1 :: P2 :: P3 :: B4 :: R) := fun e0 => hy rs u B1 B4 (co _ ⟨1, Or.inl ⟨e0, rfl⟩⟩) K (by omega) hu hv faB fB LB FB
      have e0 : (tkq b n q).1 = 0 := by
        have k := tok_ok true b hq
        refine t0.resolve_right (fun c => ?_)
        have qn : q = n := by omega
        subst qn
        have : (tok true b q q).1 = 0 := by
          unfold tok
          have z : rl blk b q q = 0 := rl_eq ⟨fun j hj => absurd hj (Nat.not_lt_zero j), fun g => by omega⟩
          simp only [z]
          rw [if_pos (by omega)]
        have c' : (tok true b q q).1 = 3 := c
        omega
      refine gX6_read_11 ?_
      unfold fX6_read_11
      exact ⟨fun _ => ⟨Or.inr rfl, fin e0⟩, fun _ => ⟨fun _ => ⟨Or.inr rfl, fin e0⟩, fun g => absurd (kk.2.2.2.2.mpr e0) g⟩⟩
    | succ m ih =>
      intro q u i rs B1 B4 hm hq hi tB kB faB fB LB FB K lc hu hv co
      have kk := kB.k hq
      have fin : (tkq b n q).1 = 0 → Q (some (vI 1)) (P0 :: B1 :: P2 :: P3 :: B4 :: R) := fun e0 => hy rs u B1 B4 (co _ ⟨1, Or.inl ⟨e0, rfl⟩⟩) K (by omega) hu hv faB fB LB FB
      refine gX6_read_11 ?_
      unfold fX6_read_11
      rw [show (400 : Int32) = iI 400 from rfl, iI_le (by omega) (by omega) (by omega) (by omega), kk.2.2.2.2]
      refine ⟨fun g => ⟨Or.inr rfl, fin ?_⟩, fun _ => ⟨fun e0 => ⟨Or.inr rfl, fin e0⟩, fun e0 => ?_⟩⟩
      · have qn : q = n := by omega
        subst qn
        show (tok true b q q).1 = 0
        unfold tok
        have z : rl blk b q q = 0 := rl_eq ⟨fun j hj => absurd hj (Nat.not_lt_zero j), fun g => by omega⟩
        simp only [z]
        rw [if_pos (by omega)]
      · refine C_readRule hn hq tB kB LB K lc hu hv (fun rs' u' q' D1 D4 hR l1 l2 K' lc' hu' hv' tD kD fD LD FD => ?_) (fun e D1 D4 hR fa' fD FD => ?_)
        · dsimp only [hx5, rI]
          refine ⟨fun _ => ?_, fun g => absurd g (by decide)⟩
          rw [show iI (i : Nat) + 1 = iI ((i + 1 : Nat)) from iI_add (i : Nat) 1]
          refine ih q' u' (i + 1) rs' D1 D4 (by omega) l2 (by omega) tD kD ?_ (fB.trs (fD.mono (by simp) (by simp) (by simp) (by simp))) LD (FB.tr FD) K' lc' hu' hv' (fun o ⟨f, ho⟩ => co o ⟨f + 1, Or.inr ⟨e0, Or.inr ⟨rs', u', q', hR, ho⟩⟩⟩)
          exact ⟨by rw [fD.2.1 _ (by simp)]; exact faB.1, by rw [fD.2.1 _ (by simp)]; exact faB.2⟩
        · dsimp only [hx5, rI]
          exact ⟨fun g => absurd rfl g, fun _ => ⟨Or.inl rfl, hno e D1 D4 (co _ ⟨1, Or.inr ⟨e0, Or.inl ⟨e, hR, rfl⟩⟩⟩) fa' (fB.trs (fD.mono (by simp) (by simp) (by simp) (by simp))) (FB.tr FD)⟩⟩
  refine loop n 0 0 0 [] A1 A4 (by omega) (by omega) (by omega) tA kA fa f0 ⟨r1, ⟨r2, r3, fun i hi => absurd hi (Nat.not_lt_zero i)⟩, fun r hr => absurd hr (Nat.not_lt_zero r)⟩ f4 ⟨by show 0 ≤ 6; omega, fun r hr => by cases hr⟩ (Nat.le_refl _) (by omega) (Nat.le_refl _) (fun o h => h)
theorem C_rules {d j k n : Nat} {b : Nat → Int} {P0 P1 P2 P3 P4 P5 P6 P7 P8 P9 P10 P11 P12 : PS} {R : List PS} {Q : Option AV → List PS → Prop} (ht : TpC b n P1) (ho : OwC P1) (hk : gO P12 0 13 = some k) (hj : gO P12 0 14 = some j)
    (hbig : 400 < n → Q (some (vI (iI (-2)))) (P0 :: P1 :: P2 :: P3 :: P4 :: P5 :: P6 :: P7 :: P8 :: P9 :: P10 :: P11 :: P12 :: R))
    (hy : ∀ rs u P1' P4', n ≤ 400 → (∃ f, RlsR b n f [] 0 0 (.ok (rs, u))) → RsK rs → (cds rs).length ≤ 400 → u ≤ 40 → vals (cds rs) ≤ u → FaC (0, -1) P1' → gI P1' 0 1 = iI 0 → Fr (1 :: rdJ) [7] [] [] P1 P1' → LwC j rs u P4' → FrJ j P4 P4' → Q (some (vI (iI (rs.length : Nat)))) (P0 :: P1' :: P2 :: P3 :: P4' :: P5 :: P6 :: P7 :: P8 :: P9 :: P10 :: P11 :: (sO (sO P12 0 13 (some j)) 0 14 (some k)) :: R))
    (hno : ∀ e P1' P4', n ≤ 400 → (∃ f, RlsR b n f [] 0 0 (.error e)) → FaC e P1' → gI P1' 0 1 = iI 0 → Fr (1 :: rdJ) [7] [] [] P1 P1' → FrJ j P4 P4' → Q (some (vI (iI (-1)))) (P0 :: P1' :: P2 :: P3 :: P4' :: P5 :: P6 :: P7 :: P8 :: P9 :: P10 :: P11 :: P12 :: R)) : Tri 128 (d + 62) [vR 12 0 0] (P0 :: P1 :: P2 :: P3 :: P4 :: P5 :: P6 :: P7 :: P8 :: P9 :: P10 :: P11 :: P12 :: R) Q := by
  have h15 := ht.2.1
  refine enX11_rules ?_
  unfold fX11_rules_0
  rw [show gI P1 0 1 = _ from ht.1, show (400 : Int32) = iI 400 from rfl, iI_le (by omega) (by omega) (by omega) (by omega)]
  refine ⟨fun c => ?_, fun c => hbig (by omega)⟩
  rw [hj]
  dsimp only [oM]
  refine C_readRules (by omega) ht.1 ht.2.2 ho (fun rs u A1 A4 hr K lc hu hv fa fA LA FA => ?_) (fun e A1 A4 hr fa fA FA => ?_)
  · dsimp only [hx13, rI]
    rw [hk, hj]
    refine ⟨fun _ => ?_, fun g => absurd g (by decide)⟩
    dsimp only
    rw [show gI A4 j 4 = _ from LA.1]
    exact hy rs u (sI A1 0 1 0) A4 (by omega) hr K lc hu hv ⟨fa.1, fa.2⟩ rfl ((fA.mono (by simp) (by simp) (by simp) (by simp)).sI (by simp)) LA FA
  · dsimp only [hx13, rI]
    exact ⟨fun g => absurd rfl g, fun _ => hno e (sI A1 0 1 0) A4 (by omega) hr ⟨fa.1, fa.2⟩ rfl ((fA.mono (by simp) (by simp) (by simp) (by simp)).sI (by simp)) FA⟩
