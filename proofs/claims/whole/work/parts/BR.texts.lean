/-! ===== book, rules, picture: both together ===== -/
theorem BoC.fj {j k : Nat} {l : List SR} {f : Nat → Int} {P P' : PS} (h : BoC k l f P) (fj : FrJ j P P') (ne : k ≠ j) : BoC k l f P' := by
  have o := fj.2 k ne
  refine ⟨⟨by rw [o.1]; exact h.1.1, h.1.2.1, h.1.2.2.1, fun i hi => ?_⟩, fun i hi => by rw [o.1]; exact h.2.1 i hi, fun u v hu hv => by rw [o.2.2.1]; exact h.2.2 u v hu hv⟩
  rw [o.2.2.2.1, o.2.2.1, o.2.2.1, o.2.2.1]; exact h.1.2.2.2 i hi
theorem DgC.fj {j k : Nat} {P P' : PS} (h : DgC k P) (fj : FrJ j P P') (ne : k ≠ j) : DgC k P' := fun u hu => by rw [(fj.2 k ne).2.2.1]; exact h u hu
theorem LwC.fj {j k u : Nat} {rs : List RLt} {P P' : PS} (h : LwC k rs u P) (fj : FrJ j P P') (ne : k ≠ j) : LwC k rs u P' := by
  have o := fj.2 k ne
  refine ⟨by rw [o.1]; exact h.1, ⟨by rw [o.1]; exact h.2.1.1, by rw [o.1]; exact h.2.1.2.1, fun i hi => by rw [o.2.2.1]; exact h.2.1.2.2 i hi⟩, fun r hr => ?_⟩
  rw [o.2.2.1, o.2.2.1]; exact h.2.2 r hr
theorem frN_0 : frN (fun _ _ => false) = 0 := by
  have : ∀ n, cnt (fun _ => false) n = 0 := fun n => by
    induction n with
    | zero => rfl
    | succ n ih => unfold cnt; rw [ih]; rfl
  exact this 256
theorem Tp0 {b : Nat → Int} {P : PS} (h : gI P 0 1 = iI 0) : TpM b 0 P := ⟨h, by omega, fun i hi => absurd hi (Nat.not_lt_zero i)⟩
theorem Tc0 {b : Nat → Int} {P : PS} (h : gI P 0 1 = iI 0) : TpC b 0 P := ⟨h, by omega, fun i hi => absurd hi (Nat.not_lt_zero i)⟩
theorem iu_0 {l : List SR} {f : Nat → Int} {P : PS} (h : gI P 0 10 = iI 0 ∧ gI P 0 11 = iI 0 ∧ gI P 0 12 = iI 0 ∧ gI P 0 13 = iI 0) : IU l f P := ⟨fun c => absurd h.1 c, fun c => absurd h.2.1 c, fun c => absurd h.2.2.1 c, fun c => absurd h.2.2.2 c⟩
theorem rl_0 {P : PS} (h1 : gI P 0 83 = 0) (h2 : gI P 0 84 = 0) : RlM [] 0 P := ⟨h1, h2, fun i hi => absurd hi (Nat.not_lt_zero i), fun r hr => absurd hr (Nat.not_lt_zero r), fun r _ h0 => absurd h0 (Nat.not_lt_zero 0)⟩
theorem law_0 {k : Nat} {P : PS} (h : gI P k 4 = iI 0 ∧ gI P k 5 = iI 0 ∧ gI P k 6 = iI 0) : LwC k [] 0 P := ⟨h.1, ⟨h.2.1, h.2.2, fun i hi => absurd hi (Nat.not_lt_zero i)⟩, fun r hr => absurd hr (Nat.not_lt_zero r)⟩
theorem rk_0 : RsK [] ∧ VC (cds []) ∧ (cds []).length ≤ 300 := ⟨⟨Nat.zero_le _, fun r hr => (by cases hr)⟩, fun r hr => (by cases hr), Nat.zero_le _⟩
def y0 : SY := (0, fun _ _ => 0, fun _ => 0, fun _ => 0, fun _ _ => false)
theorem two_book {hs : List PS} (h : INV hs) : Two 126 192 false 0 0 [] hs := by
  obtain ⟨P0, P1, P2, P3, P4, P5, P6, P7, P8, P9, P10, P11, P12, b, n, e, l, f, kb, ks, y, t, X, rs, u, kl, kls, rfl, hT, hB, hU, hS, hX, hR, hO⟩ := h
  have ht := hS.2.2.1.2.1
  have dks := hB.2.2.2.1
  refine C_book hT.2.1 hT.2.2.2.2 hB.2.2.2.2.1 hB.2.2.2.2.2 hR.2.2.2.2.2.2.1 hO dks.2.1 (fun a P1' P2' P4' P5' P6' P10' hb fa ln f1 td ss lc dg fj2 r4 fj4 s5 n5 st n10 => M_book hT.1 (fun a' P0' hb' bm hbx hfr fr hz => ?_) (fun e' P0' hb' _ _ _ => by rw [hb] at hb'; cases hb')) (fun e1 P1' P2' P10' hb fa ln f1 dg fj2 n10 => M_book hT.1 (fun a' P0' hb' _ _ _ _ _ => by rw [hb] at hb'; cases hb') (fun e' P0' hb' fr fm tp => ?_))
  · have ea : a' = a := by rw [hb] at hb'; exact (Except.ok.inj hb').symm
    subst ea
    have hF := bookS_fok (n + 1) BA0 a' 0 (Nat.zero_le n) fok_plain hb
    refine ⟨rfl, ⟨_, rfl⟩, P0', P1', P2', P3, P4', P5', P6', P7, P8, P9, P10', P11, sO (sO P12 0 11 (some ks)) 0 12 (some kb), b, 0, ((0 : Int), (-1 : Int)), a'.1, a'.2.1, ks, kb, y0, t, (fun _ => False, X.2), [], 0, kl, kls, rfl, ⟨Tp0 hz.2.2.2.2, Tc0 ln, hz.2.2.2.1, fa, fun i hi => by rw [f1.2.2.2.2 _ _ (by simp)]; exact hT.2.2.2.2 i hi⟩, ⟨bm, hF, ⟨ss, td, lc⟩, ⟨dg, dks.1.fj fj2 dks.2.2, fun g => dks.2.2 g.symm⟩, rfl, rfl⟩, iu_0 s5, ⟨?_, ?_, ?_, ⟨fun q hq => absurd hq (Nat.not_lt_zero q), fun i hi => hi.elim⟩, fun q q' hq => absurd hq (Nat.not_lt_zero q), fun i hi => hi.elim⟩, fun k hk => ⟨?_, fun g => absurd (st.2.2.2.2.2 k hk) g⟩, ⟨rl_0 hz.2.1 hz.2.2.1, law_0 r4, rk_0.1, rk_0.2.1, rk_0.2.2, hR.2.2.2.2.2.1, hR.2.2.2.2.2.2.1, hR.2.2.2.2.2.2.2⟩, hO⟩
    · refine ⟨hz.1, Nat.zero_le _, by rw [fr.2.1 _ (by simp)]; exact hS.1.2.2.1, ht, fun c r hc hr => ?_, fun q hq => absurd hq (Nat.not_lt_zero q)⟩
      rw [hfr _ (by omega)]; rfl
    · refine ⟨st.2.1, by rw [st.2.2.2.1]; exact hS.2.1.2.1, ?_, st.2.2.2.2.1, fun q hq => absurd hq (Nat.not_lt_zero q)⟩
      rw [st.2.2.1]
      show iI 0 = iI ((frN (fun _ _ => false) : Nat) : Int)
      rw [frN_0]; rfl
    · exact ⟨Nat.zero_le _, ht, fun q hq => absurd hq (Nat.not_lt_zero q)⟩
    · rw [hbx k hk, st.2.2.2.2.2 k hk]
  · have ee : e' = e1 := by rw [hb] at hb'; exact (Except.error.inj hb').symm
    subst ee
    exact ⟨rfl, ⟨_, rfl⟩, P0', P1', P2', P3, P4, P5, P6, P7, P8, P9, P10', P11, P12, b, 0, e', l, f, kb, ks, y, t, X, rs, u, kl, kls, rfl, ⟨Tp0 tp, Tc0 ln, ⟨fm.1, fm.2.1⟩, fa, fun i hi => by rw [f1.2.2.2.2 _ _ (by simp)]; exact hT.2.2.2.2 i hi⟩, ⟨hB.1.sk (fr.sk (by decide) (by decide)), hB.2.1, hB.2.2.1.fj fj2 dks.2.2, ⟨dks.1.fj fj2 dks.2.2, dg, dks.2.2⟩, hB.2.2.2.2⟩, hU, ⟨hS.1.sk (fr.sk (by decide) (by decide)), hS.2⟩, hX.sk (fr.sk (by decide) (by decide)), ⟨hR.1.sk (fr.sk (by decide) (by decide)), hR.2⟩, hO⟩
theorem two_rules {hs : List PS} (h : INV hs) : Two 128 275 false 0 0 [] hs := by
  obtain ⟨P0, P1, P2, P3, P4, P5, P6, P7, P8, P9, P10, P11, P12, b, n, e, l, f, kb, ks, y, t, X, rs, u, kl, kls, rfl, hT, hB, hU, hS, hX, hR, hO⟩ := h
  have dk := hR.2.2.2.2.2.1
  refine C_rules hT.2.1 hT.2.2.2.2 hR.2.2.2.2.2.2.1 hR.2.2.2.2.2.2.2 (fun c => M_rules (o := .error ((0 : Int), (0 : Int))) hT.1 (fun g => absurd c (by omega)) (fun _ => ⟨rfl, ⟨_, rfl⟩, mkI hT hB hS hX hR hO SM.rf hU hS.st hR.2.1 id12⟩) (fun rs' u' P' g => absurd c (by omega)) (fun e' P' g => absurd c (by omega))) (fun rs1 u1 P1' P4' c hex rk _ _ _ fa ln f1 lw fj => M_rules (o := .ok (rs1, u1)) hT.1 (fun _ => hex) (fun g => absurd g (by omega)) (fun rs2 u2 P0' _ ho rl l3 fm tp fr => ?_) (fun e' P' _ ho => by cases ho)) (fun e1 P1' P4' c hex fa ln f1 fj => M_rules (o := .error e1) hT.1 (fun _ => hex) (fun g => absurd g (by omega)) (fun rs2 u2 P' _ ho => by cases ho) (fun e' P0' _ ho fm tp fr => ?_))
  · cases ho
    obtain ⟨F, hex⟩ := hex
    have vc := rls_vc F [] 0 0 rs1 u1 hex rk_0.2.1
    exact ⟨rfl, ⟨_, rfl⟩, P0', P1', P2, P3, P4', P5, P6, P7, P8, P9, P10, P11, sO (sO P12 0 13 (some kls)) 0 14 (some kl), b, 0, ((0 : Int), (-1 : Int)), l, f, kb, ks, y, t, X, rs1, u1, kls, kl, rfl, ⟨Tp0 tp, Tc0 ln, fm, fa, fun i hi => by rw [f1.2.2.2.2 _ _ (by simp)]; exact hT.2.2.2.2 i hi⟩, ⟨hB.1.sk (fr.sk (by decide) (by decide)), hB.2⟩, hU, ⟨hS.1.sk (fr.sk (by decide) (by decide)), hS.2⟩, hX.sk (fr.sk (by decide) (by decide)), ⟨rl, lw, rk, vc, l3, fun g => dk g.symm, rfl, rfl⟩, hO⟩
  · cases ho
    exact ⟨rfl, ⟨_, rfl⟩, P0', P1', P2, P3, P4', P5, P6, P7, P8, P9, P10, P11, P12, b, 0, e1, l, f, kb, ks, y, t, X, rs, u, kl, kls, rfl, ⟨Tp0 tp, Tc0 ln, ⟨fm.1, fm.2.1⟩, fa, fun i hi => by rw [f1.2.2.2.2 _ _ (by simp)]; exact hT.2.2.2.2 i hi⟩, ⟨hB.1.sk (fr.sk (by decide) (by decide)), hB.2⟩, hU, ⟨hS.1.sk (fr.sk (by decide) (by decide)), hS.2⟩, hX.sk (fr.sk (by decide) (by decide)), ⟨hR.1.sk (fr.sk (by decide) (by decide)), hR.2.1.fj fj dk, hR.2.2⟩, hO⟩
